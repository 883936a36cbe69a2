import java.util.LinkedHashMap;
import java.util.Map;
import java.util.NoSuchElementException;
import java.util.function.Consumer;

/**
 * "Numbers that are not as said are refused, changing nothing": every kind of refused call is made on a
 * desk, and all that the desk answers afterwards is compared with a twin to which the call was not made.
 */
public final class RefusedCallsTest extends DeskTest {
    /** What the book of 2 is short of, where a consolidation is to be refused for it. */
    private static final long WANTING = -5;
    private static final int REFUSED = 0;
    private static final long THROWN = Long.MIN_VALUE;

    public static void main(String[] args) {
        CHECKS.sentence("Numbers that are not as said are refused, changing nothing");
        companies();
        accounts();
        holdings();
        rates();
        posts();
        historics();
        asked();
        CHECKS.sentence("else nothing is changed (what was consolidated before stays)");
        consolidations();
        CHECKS.end();
    }

    /** Consolidated once, and then changed in everything, so that a second time comes out otherwise. */
    private static ConsolidationDesk usedDesk() {
        ConsolidationDesk x = desk(1, 0, 2);
        x.hold(0, 1, 6000);
        x.hold(1, 2, 7000);
        x.rate(1, 1_500_000, 1_250_000);
        x.historic(1, EQUITY, -99);
        post(x, 0, BALANCE, 1, RESULT, 100);
        post(x, 1, BALANCE, 0, RESULT, -50);
        post(x, 1, BALANCE, NONE, EQUITY, 1000);
        post(x, 2, RESULT, 1, EQUITY, 33);
        x.consolidate();
        x.hold(1, 2, 8000);
        x.rate(1, 1_600_000, 1_350_000);
        x.historic(1, EQUITY, -101);
        post(x, 0, BALANCE, 1, RESULT, 7);
        post(x, 2, BALANCE, NONE, RESULT, LIMIT - 1);
        return x;
    }

    private static void companies() {
        for (int currency : new int[] {-1, 4, MIN, MAX}) {
            refused("company(" + currency + ")", NONE, x -> x.company(currency));
        }
        Consumer<ConsolidationDesk> fill = x -> {
            for (int c = 4; c <= 11; c++) {
                x.company(c % 4);
            }
        };
        for (int currency = 0; currency <= 3; currency++) {
            int wanted = currency;
            refused("company(" + wanted + "), full", NONE, fill, x -> x.company(wanted));
        }
    }

    private static void accounts() {
        for (int sort : new int[] {0, -1, 5, 4, MIN, MAX}) {
            refused("account(" + sort + ")", NONE, x -> x.account(sort));
        }
        Consumer<ConsolidationDesk> fill = x -> {
            for (int a = 4; a <= 11; a++) {
                x.account(a % 3 + 1);
            }
        };
        for (int sort = 1; sort <= 4; sort++) {
            int wanted = sort;
            refused("account(" + wanted + "), full", NONE, fill, x -> x.account(wanted));
        }
    }

    private static void holdings() {
        int[][] wrong = {
            {-1, 1, 1}, {4, 1, 1}, {12, 1, 1}, {MIN, 1, 1}, {MAX, 1, 1},
            {0, -1, 1}, {0, 4, 1}, {0, 12, 1}, {0, MIN, 1}, {0, MAX, 1},
            {0, 1, -1}, {0, 1, 10001}, {0, 1, MIN}, {0, 1, MAX},
            {1, 1, 1}, {0, 0, 1}, {1, 0, 1}, {2, 0, 1}, {2, 1, 1}, {3, 1, 4001}, {3, 2, 10000}};
        for (int[] w : wrong) {
            refused("hold(" + w[0] + ", " + w[1] + ", " + w[2] + ")", REFUSED, x -> x.hold(w[0], w[1], w[2]) ? 1 : 0);
        }
        Consumer<ConsolidationDesk> chain = x -> {
            x.company(0);
            x.hold(2, 3, 5001);
            x.hold(3, 4, 5001);
            x.company(0);
            x.rate(2, 1, 1);
        };
        refused("hold(4, 5, 1), a fifth behind", REFUSED, chain, x -> x.hold(4, 5, 1) ? 1 : 0);
        refused("hold(5, 0, 1), a fifth before", REFUSED, chain, x -> x.hold(5, 0, 1) ? 1 : 0);
        refused("hold(4, 1, 1), going round", REFUSED, chain, x -> x.hold(4, 1, 1) ? 1 : 0);
    }

    private static void rates() {
        int[][] wrong = {
            {-1, 1, 1}, {0, 1, 1}, {4, 1, 1}, {MIN, 1, 1}, {MAX, 1, 1},
            {1, 0, 1}, {1, -1, 1}, {1, 1_000_000_001, 1}, {1, MIN, 1}, {1, MAX, 1},
            {1, 1, 0}, {1, 1, -1}, {1, 1, 1_000_000_001}, {1, 1, MIN}, {1, 1, MAX}};
        for (int[] w : wrong) {
            refused("rate(" + w[0] + ", " + w[1] + ", " + w[2] + ")", REFUSED, x -> x.rate(w[0], w[1], w[2]) ? 1 : 0);
        }
    }

    private static void posts() {
        int[][] wrong = {
            {-1, BALANCE, NONE}, {4, BALANCE, NONE}, {12, BALANCE, NONE}, {MIN, BALANCE, NONE}, {MAX, BALANCE, NONE},
            {1, -1, NONE}, {1, 4, NONE}, {1, 12, NONE}, {1, MIN, NONE}, {1, MAX, NONE},
            {1, BALANCE, -2}, {1, BALANCE, 1}, {1, BALANCE, 4}, {1, BALANCE, 12}, {1, BALANCE, MIN}, {1, BALANCE, MAX},
            {0, BALANCE, 0}, {1, EQUITY, 0}, {1, RESERVE, NONE}, {1, RESERVE, 0}};
        for (int[] w : wrong) {
            refused("post(" + w[0] + ", " + w[1] + ", " + w[2] + ", 1)", REFUSED, x -> x.post(w[0], w[1], w[2], 1) ? 1 : 0);
        }
        // The sum is LIMIT - 1 in company 2.
        long[] tooGreat = {2, -2 * LIMIT, Long.MAX_VALUE, Long.MIN_VALUE, Long.MAX_VALUE - LIMIT + 2};
        for (long cents : tooGreat) {
            refused("post(2, 0, NONE, " + cents + ")", REFUSED, x -> x.post(2, BALANCE, NONE, cents) ? 1 : 0);
        }
    }

    private static void historics() {
        int[][] wrong = {
            {-1, EQUITY}, {4, EQUITY}, {12, EQUITY}, {MIN, EQUITY}, {MAX, EQUITY},
            {1, -1}, {1, 4}, {1, 12}, {1, MIN}, {1, MAX}, {1, BALANCE}, {1, RESULT}, {1, RESERVE}};
        for (int[] w : wrong) {
            refused("historic(" + w[0] + ", " + w[1] + ", 1)", REFUSED, x -> x.historic(w[0], w[1], 1) ? 1 : 0);
        }
        long[] tooGreat = {LIMIT + 1, -LIMIT - 1, Long.MAX_VALUE, Long.MIN_VALUE};
        for (long cents : tooGreat) {
            refused("historic(1, EQUITY, " + cents + ")", REFUSED, x -> x.historic(1, EQUITY, cents) ? 1 : 0);
        }
    }

    private static void asked() {
        for (int w : new int[] {-2, -1, 4, 12, MIN, MAX}) {
            refused("isBalanced(" + w + ")", NONE, x -> x.isBalanced(w));
            refused("controlled(" + w + ")", NONE, x -> x.controlled(w));
            refused("effective(" + w + ")", NONE, x -> x.effective(w));
            refused("posted(" + w + ", 0, NONE)", THROWN, x -> x.posted(w, 0, NONE));
            refused("posted(0, " + w + ", NONE)", THROWN, x -> x.posted(0, w, NONE));
            refused("group(" + w + ")", THROWN, x -> x.group(w));
            refused("trace(" + w + ", 0, 0)", THROWN, x -> x.trace(w, 0, 0));
            refused("trace(0, " + w + ", 0)", THROWN, x -> x.trace(0, w, 0));
            refused("trace(0, 0, " + w + ")", THROWN, x -> x.trace(0, 0, w));
            refused("minority(" + w + ")", THROWN, x -> x.minority(w));
            refused("openItem(" + w + ", 0)", THROWN, x -> x.openItem(w, 0));
            refused("openItem(0, " + w + ")", THROWN, x -> x.openItem(0, w));
        }
        refused("posted(0, 0, 0)", THROWN, x -> x.posted(0, 0, 0));
        refused("trace(0, 0, 3)", THROWN, x -> x.trace(0, 0, 3));
    }

    private static void consolidations() {
        Consumer<ConsolidationDesk> unbalance = x -> x.post(2, BALANCE, 0, WANTING);
        refused("consolidate(), 2 not balanced", -3, unbalance, ConsolidationDesk::consolidate);
        Consumer<ConsolidationDesk> take = x -> x.hold(0, 3, 10000);
        refused("consolidate(), 3 without rates", -102, take, ConsolidationDesk::consolidate);
    }

    private static void refused(String name, long due, DeskCall call) {
        refused(name, due, x -> { }, call);
    }

    private static void refused(String name, long due, Consumer<ConsolidationDesk> before, DeskCall call) {
        ConsolidationDesk x = usedDesk();
        ConsolidationDesk twin = usedDesk();
        before.accept(x);
        before.accept(twin);
        CHECKS.due(name, answer(x, call), due);
        Map<String, Long> got = state(x);
        Map<String, Long> wanted = state(twin);
        CHECKS.due("the twin shows its amounts", wanted.get("consolidate() unhindered"), 0);
        for (Map.Entry<String, Long> want : wanted.entrySet()) {
            CHECKS.due(want.getKey() + " behind " + name, got.get(want.getKey()), want.getValue());
        }
    }

    private static long answer(ConsolidationDesk x, DeskCall call) {
        try {
            return call.answer(x);
        } catch (NoSuchElementException e) {
            return THROWN;
        }
    }

    /** All that can be asked, then a consolidation for what only it shows, then the next numbers. */
    private static Map<String, Long> state(ConsolidationDesk x) {
        Map<String, Long> state = new LinkedHashMap<>();
        addBooks(state, x);
        addReport(state, "", x);
        addReport(state, "consolidated anew, ", consolidated(state, x));
        state.put("account(1)", answer(x, y -> y.account(1)));
        state.put("account(4)", answer(x, y -> y.account(4)));
        state.put("company(0)", answer(x, y -> y.company(0)));
        return state;
    }

    private static ConsolidationDesk consolidated(Map<String, Long> state, ConsolidationDesk x) {
        state.put("consolidate()", (long) x.consolidate());
        // Whatever hindered it is taken away, to see the amounts too.
        if (x.isBalanced(2) == 0) {
            x.post(2, RESULT, NONE, -WANTING);
        }
        x.rate(2, 1_000_000, 1_000_000);
        state.put("consolidate() unhindered", (long) x.consolidate());
        return x;
    }

    private static void addBooks(Map<String, Long> state, ConsolidationDesk x) {
        for (int company = 0; company < 4; company++) {
            int c = company;
            state.put("isBalanced(" + c + ")", (long) x.isBalanced(c));
            state.put("controlled(" + c + ")", (long) x.controlled(c));
            state.put("effective(" + c + ")", x.effective(c));
            for (int account = 0; account < 4; account++) {
                for (int partner = NONE; partner < 4; partner++) {
                    int a = account;
                    int p = partner;
                    state.put("posted(" + c + ", " + a + ", " + p + ")", answer(x, y -> y.posted(c, a, p)));
                }
            }
        }
    }

    private static void addReport(Map<String, Long> state, String name, ConsolidationDesk x) {
        for (int account = 0; account < 4; account++) {
            int a = account;
            state.put(name + "group(" + a + ")", answer(x, y -> y.group(a)));
            for (int company = 0; company < 4; company++) {
                int c = company;
                state.put(name + "minority(" + c + ")", answer(x, y -> y.minority(c)));
                for (int step = 0; step < 3; step++) {
                    int s = step;
                    state.put(name + "trace(" + a + ", " + c + ", " + s + ")", answer(x, y -> y.trace(a, c, s)));
                }
            }
        }
        state.put(name + "openItems()", (long) x.openItems());
        for (int item = 0; item < 4; item++) {
            for (int what = 0; what < 4; what++) {
                int i = item;
                int w = what;
                state.put(name + "openItem(" + i + ", " + w + ")", answer(x, y -> y.openItem(i, w)));
            }
        }
    }
}
