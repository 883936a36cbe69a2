import java.util.NoSuchElementException;
import java.util.Random;

/** All promises: long runs of chosen calls, the same ones every time, against DeskModel. */
public final class ModelTest extends DeskTest {
    private static final int RUNS = 600;
    private static final int CALLS = 512;

    private final int run;
    private final Random random;
    private final ConsolidationDesk desk = new ConsolidationDesk();
    private final DeskModel model = new DeskModel();
    private int calls = 0;

    private ModelTest(int run) {
        this.run = run;
        this.random = new Random(run);
    }

    public static void main(String[] args) {
        int consolidations = 0;
        long openItems = 0;
        for (int run = 1; run <= RUNS; run++) {
            ModelTest test = new ModelTest(run);
            consolidations += test.play();
            openItems += test.model.openItems();
        }
        // Runs that never come so far would prove nothing.
        CHECKS.due("consolidations enough", consolidations > RUNS, true);
        CHECKS.due("open items enough", openItems > RUNS, true);
        CHECKS.end();
    }

    private int play() {
        int consolidations = 0;
        for (int i = random.nextInt(14); i > 0; i--) {
            company(random.nextInt(4));
        }
        for (int i = random.nextInt(10); i > 0; i--) {
            account(1 + random.nextInt(4));
        }
        while (calls < CALLS - 8) {
            int kind = random.nextInt(100);
            if (kind < 20) {
                build(kind);
            } else if (kind < 55) {
                postPair();
            } else if (kind < 60) {
                post(someCompany(), someAccount(), somePartner(), cents());
            } else if (kind < 65) {
                balanceAll();
            } else if (kind < 70) {
                consolidations += consolidate() ? 1 : 0;
            } else {
                ask(kind);
            }
        }
        return consolidations;
    }

    private void build(int kind) {
        if (kind == 0) {
            company(random.nextInt(6) - 1);
        } else if (kind == 1) {
            account(random.nextInt(7) - 1);
        } else if (kind < 13) {
            hold();
        } else if (kind < 17) {
            int currency = random.nextInt(5);
            int closing = someRate();
            int average = someRate();
            due("rate(" + currency + ", " + closing + ", " + average + ")",
                desk.rate(currency, closing, average), model.rate(currency, closing, average));
        } else {
            int company = someCompany();
            int account = someAccount();
            long cents = cents();
            due("historic(" + company + ", " + account + ", " + cents + ")",
                desk.historic(company, account, cents), model.historic(company, account, cents));
        }
    }

    private void company(int currency) {
        due("company(" + currency + ")", desk.company(currency), model.company(currency));
    }

    private void account(int sort) {
        due("account(" + sort + ")", desk.account(sort), model.account(sort));
    }

    private void hold() {
        int owner = random.nextInt(3) == 0 ? 0 : someCompany();
        int owned = someCompany();
        int[] parts = {0, 1, 2500, 5000, 5001, 6000, 9999, 10000, 10001, random.nextInt(10001)};
        int hundredths = parts[random.nextInt(parts.length)];
        due("hold(" + owner + ", " + owned + ", " + hundredths + ")",
            desk.hold(owner, owned, hundredths), model.hold(owner, owned, hundredths));
    }

    private void post(int company, int account, int partner, long cents) {
        due("post(" + company + ", " + account + ", " + partner + ", " + cents + ")",
            desk.post(company, account, partner, cents), model.post(company, account, partner, cents));
    }

    /** Two posts that mostly leave a book as balanced as it was. */
    private void postPair() {
        int company = someCompany();
        long cents = cents();
        post(company, someAccount(), somePartner(), cents);
        post(company, someAccount(), somePartner(), -cents);
    }

    /** Posts what is wanting, where one sum can take it, so that consolidations come about. */
    private void balanceAll() {
        for (int c = 0; c < model.companies() && calls < CALLS - 40; c++) {
            if (model.isBalanced(c) != 0) {
                continue;
            }
            long total = 0;
            for (int a = 0; a < model.accounts(); a++) {
                for (int p = NONE; p < model.companies(); p++) {
                    total += p == c ? 0 : model.posted(c, a, p);
                }
            }
            for (int a = 0; a < model.accounts() && model.isBalanced(c) == 0 && calls < CALLS - 20; a++) {
                post(c, a, NONE, -total);
            }
        }
    }

    private boolean consolidate() {
        int want = model.consolidate();
        due("consolidate()", desk.consolidate(), want);
        return want == 0;
    }

    private void ask(int kind) {
        int company = someCompany();
        int account = someAccount();
        int other = somePartner();
        int step = random.nextInt(8) == 0 ? random.nextInt(5) - 1 : random.nextInt(3);
        int item = random.nextInt(Math.max(model.openItems(), 1) + 1);
        int what = random.nextInt(8) == 0 ? random.nextInt(6) - 1 : random.nextInt(4);
        switch (kind % 11) {
            case 0 -> due("isBalanced(" + company + ")", desk.isBalanced(company), model.isBalanced(company));
            case 1 -> due("controlled(" + company + ")", desk.controlled(company), model.controlled(company));
            case 2 -> due("effective(" + company + ")", desk.effective(company), model.effective(company));
            case 3 -> due("posted(" + company + ", " + account + ", " + other + ")",
                answer(() -> desk.posted(company, account, other)), model.posted(company, account, other));
            case 4 -> due("group(" + account + ")", answer(() -> desk.group(account)), model.group(account));
            case 5 -> due("minority(" + company + ")",
                answer(() -> desk.minority(company)), model.minority(company));
            case 6 -> due("openItems()", desk.openItems(), model.openItems());
            case 7, 8 -> due("openItem(" + item + ", " + what + ")",
                answer(() -> desk.openItem(item, what)), model.openItem(item, what));
            default -> due("trace(" + account + ", " + company + ", " + step + ")",
                answer(() -> desk.trace(account, company, step)), model.trace(account, company, step));
        }
    }

    private static long answer(Checks.Call call) {
        try {
            return call.answer();
        } catch (NoSuchElementException e) {
            return DeskModel.NOTHING_THERE;
        }
    }

    private int someCompany() {
        return random.nextInt(50) == 0 ? random.nextInt(15) - 1 : random.nextInt(model.companies());
    }

    private int somePartner() {
        return random.nextInt(3) == 0 ? NONE : someCompany();
    }

    private int someAccount() {
        boolean none = model.accounts() == 0 || random.nextInt(50) == 0;
        return none ? random.nextInt(15) - 1 : random.nextInt(model.accounts());
    }

    private int someRate() {
        int[] rates = {1, 500_000, 1_000_000, 1_250_000, 1_000_000_000, 1_000_000_001, 0,
            1 + random.nextInt(1_000_000_000), 1 + random.nextInt(3_000_000)};
        return rates[random.nextInt(rates.length)];
    }

    private long cents() {
        long size = switch (random.nextInt(12)) {
            case 0 -> LIMIT;
            case 1 -> LIMIT + 1;
            case 2 -> Long.MAX_VALUE;
            case 3, 4 -> random.nextInt(5);
            case 5, 6, 7 -> random.nextInt(100_000);
            default -> random.nextLong(LIMIT);
        };
        return random.nextBoolean() ? size : -size;
    }

    private void due(String call, long got, long want) {
        calls++;
        CHECKS.due("run " + run + ", call " + calls + ": " + call, got, want);
    }

    private void due(String call, boolean got, boolean want) {
        due(call, got ? 1 : 0, want ? 1 : 0);
    }
}
