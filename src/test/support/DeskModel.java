import java.math.BigDecimal;
import java.math.BigInteger;
import java.math.RoundingMode;
import java.util.ArrayList;
import java.util.HashMap;
import java.util.List;
import java.util.Map;
import java.util.TreeSet;

/**
 * The document once more, as directly as it can be said: numbers of any size, chains
 * followed one by one, nothing kept that can be worked out anew. Shares no code with the program.
 */
final class DeskModel {
    static final long NOTHING_THERE = Long.MIN_VALUE;
    private static final int NONE = -1;
    private static final int HEAD = 0;
    private static final BigInteger LIMIT = BigInteger.TEN.pow(12);
    private static final BigInteger WHOLE = BigInteger.TEN.pow(16);

    private final List<Integer> currencies = new ArrayList<>(List.of(0));
    private final List<Integer> sorts = new ArrayList<>();
    private final int[][] holdings = new int[12][12];
    private final Map<Integer, int[]> rates = new HashMap<>(Map.of(0, new int[] {1000000, 1000000}));
    private final Map<List<Integer>, BigInteger> sums = new HashMap<>();
    private final Map<List<Integer>, BigInteger> historic = new HashMap<>();

    private boolean consolidated = false;
    /** By account, company and step. */
    private Map<List<Integer>, BigInteger> traces = new HashMap<>();
    private Map<Integer, BigInteger> minorities = new HashMap<>();
    private List<long[]> open = new ArrayList<>();

    int companies() {
        return currencies.size();
    }

    int accounts() {
        return sorts.size();
    }

    int company(int currency) {
        if (currency < 0 || currency > 3 || companies() == 12) {
            return NONE;
        }
        currencies.add(currency);
        return companies() - 1;
    }

    int account(int sort) {
        if (sort < 1 || sort > 4 || accounts() == 12 || sort == 4 && sorts.contains(4)) {
            return NONE;
        }
        sorts.add(sort);
        return accounts() - 1;
    }

    boolean hold(int owner, int owned, int hundredths) {
        if (!isCompany(owner) || !isCompany(owned) || hundredths < 0 || hundredths > 10000) {
            return false;
        }
        int before = holdings[owner][owned];
        holdings[owner][owned] = hundredths;
        boolean fine = true;
        for (int c = 0; c < companies(); c++) {
            int all = 0;
            for (int o = 0; o < companies(); o++) {
                all += holdings[o][c];
            }
            fine = fine && all <= 10000 && chainsFine(new ArrayList<>(List.of(c)));
        }
        if (!fine) {
            holdings[owner][owned] = before;
        }
        return fine;
    }

    private boolean chainsFine(List<Integer> chain) {
        if (chain.size() > 5) {
            return false;
        }
        int last = chain.get(chain.size() - 1);
        for (int next = 0; next < companies(); next++) {
            if (holdings[last][next] > 0) {
                List<Integer> longer = new ArrayList<>(chain);
                longer.add(next);
                if (chain.contains(next) || !chainsFine(longer)) {
                    return false;
                }
            }
        }
        return true;
    }

    boolean rate(int currency, int closing, int average) {
        if (currency < 1 || currency > 3 || Math.min(closing, average) < 1
                || Math.max(closing, average) > 1000000000) {
            return false;
        }
        rates.put(currency, new int[] {closing, average});
        return true;
    }

    boolean post(int company, int account, int partner, long cents) {
        if (!isPlace(company, account, partner)) {
            return false;
        }
        if (sorts.get(account) == 4 || sorts.get(account) == 3 && partner != NONE) {
            return false;
        }
        BigInteger sum = sum(company, account, partner).add(BigInteger.valueOf(cents));
        if (sum.abs().compareTo(LIMIT) > 0) {
            return false;
        }
        sums.put(List.of(company, account, partner), sum);
        return true;
    }

    boolean historic(int company, int account, long cents) {
        if (!isCompany(company) || !isAccount(account) || sorts.get(account) != 3
                || BigInteger.valueOf(cents).abs().compareTo(LIMIT) > 0) {
            return false;
        }
        historic.put(List.of(company, account), BigInteger.valueOf(cents));
        return true;
    }

    long posted(int company, int account, int partner) {
        return isPlace(company, account, partner)
            ? sum(company, account, partner).longValueExact() : NOTHING_THERE;
    }

    int isBalanced(int company) {
        if (!isCompany(company)) {
            return NONE;
        }
        BigInteger total = BigInteger.ZERO;
        for (Map.Entry<List<Integer>, BigInteger> e : sums.entrySet()) {
            if (e.getKey().get(0) == company) {
                total = total.add(e.getValue());
            }
        }
        return total.signum() == 0 ? 1 : 0;
    }

    int controlled(int company) {
        return !isCompany(company) ? NONE : controlledOnes().contains(company) ? 1 : 0;
    }

    long effective(int company) {
        return isCompany(company) ? share(HEAD, company, WHOLE).longValueExact() : NONE;
    }

    private BigInteger share(int from, int to, BigInteger parts) {
        BigInteger total = from == to ? parts : BigInteger.ZERO;
        for (int next = 0; next < companies(); next++) {
            if (holdings[from][next] > 0) {
                BigInteger product = parts.multiply(BigInteger.valueOf(holdings[from][next]));
                total = total.add(share(next, to, product.divide(BigInteger.valueOf(10000))));
            }
        }
        return total;
    }

    private TreeSet<Integer> controlledOnes() {
        TreeSet<Integer> ones = new TreeSet<>(List.of(HEAD));
        boolean grew = true;
        while (grew) {
            grew = false;
            for (int c = 0; c < companies(); c++) {
                int held = 0;
                for (int owner : ones) {
                    held += holdings[owner][c];
                }
                grew = held > 5000 && ones.add(c) || grew;
            }
        }
        return ones;
    }

    int consolidate() {
        TreeSet<Integer> ones = controlledOnes();
        for (int c : ones) {
            if (isBalanced(c) == 0) {
                return -1 - c;
            }
        }
        for (int currency = 0; currency < 4; currency++) {
            for (int c : ones) {
                if (currencies.get(c) == currency && !rates.containsKey(currency)) {
                    return -100 - currency;
                }
            }
        }
        if (!sorts.contains(4)) {
            return -200;
        }
        consolidated = true;
        traces = new HashMap<>();
        minorities = new HashMap<>();
        open = new ArrayList<>();
        Map<List<Integer>, BigInteger> amounts = translated(ones);
        keep(amounts, 0);
        amounts = eliminated(ones, amounts);
        keep(amounts, 1);
        keep(amounts, 2);
        for (int c : ones) {
            showOutsiders(c);
        }
        return 0;
    }

    private Map<List<Integer>, BigInteger> translated(TreeSet<Integer> ones) {
        Map<List<Integer>, BigInteger> amounts = new HashMap<>();
        for (int c : ones) {
            BigInteger total = BigInteger.ZERO;
            for (int a = 0; a < accounts(); a++) {
                for (int p = NONE; p < companies(); p++) {
                    BigInteger amount = translated(c, a, p);
                    amounts.put(List.of(c, a, p), amount);
                    total = total.add(amount);
                }
            }
            amounts.put(List.of(c, sorts.indexOf(4), NONE), total.negate());
        }
        return amounts;
    }

    private BigInteger translated(int company, int account, int partner) {
        int sort = sorts.get(account);
        int currency = currencies.get(company);
        BigInteger sum = sum(company, account, partner);
        if (sort == 4) {
            return BigInteger.ZERO;
        }
        if (sort == 3 && currency != 0) {
            return partner == NONE ? historic.getOrDefault(List.of(company, account), BigInteger.ZERO) : BigInteger.ZERO;
        }
        if (sort == 3) {
            return sum;
        }
        return part(sum, BigInteger.valueOf(rates.get(currency)[sort - 1]), BigInteger.TEN.pow(6));
    }

    private static BigInteger part(BigInteger amount, BigInteger times, BigInteger by) {
        BigDecimal product = new BigDecimal(amount.multiply(times));
        return product.divide(new BigDecimal(by), 0, RoundingMode.HALF_UP).toBigIntegerExact();
    }

    private Map<List<Integer>, BigInteger> eliminated(TreeSet<Integer> ones, Map<List<Integer>, BigInteger> amounts) {
        Map<List<Integer>, BigInteger> left = new HashMap<>(amounts);
        for (int c : ones) {
            for (int p : ones) {
                for (int a = 0; a < accounts(); a++) {
                    BigInteger here = amounts.get(List.of(c, a, p));
                    BigInteger there = amounts.get(List.of(p, a, c));
                    if (here.signum() * there.signum() < 0) {
                        BigInteger size = here.abs().subtract(here.abs().min(there.abs()));
                        left.put(List.of(c, a, p), here.signum() < 0 ? size.negate() : size);
                    }
                    long rest = left.get(List.of(c, a, p)).longValueExact();
                    if (rest != 0) {
                        open.add(new long[] {c, p, a, rest});
                    }
                }
            }
        }
        return left;
    }

    private void keep(Map<List<Integer>, BigInteger> amounts, int step) {
        for (Map.Entry<List<Integer>, BigInteger> e : amounts.entrySet()) {
            traces.merge(List.of(e.getKey().get(1), e.getKey().get(0), step), e.getValue(), BigInteger::add);
        }
    }

    private void showOutsiders(int company) {
        BigInteger netAssets = BigInteger.ZERO;
        for (int a = 0; a < accounts(); a++) {
            if (sorts.get(a) == 1) {
                netAssets = netAssets.add(traces.get(List.of(a, company, 0)));
            }
        }
        BigInteger outside = WHOLE.subtract(BigInteger.valueOf(effective(company)));
        BigInteger part = part(netAssets, outside, WHOLE);
        minorities.put(company, part.negate());
        traces.merge(List.of(sorts.indexOf(4), company, 2), part, BigInteger::add);
    }

    long group(int account) {
        if (!consolidated || !isAccount(account)) {
            return NOTHING_THERE;
        }
        BigInteger total = BigInteger.ZERO;
        for (int c = 0; c < companies(); c++) {
            total = total.add(traces.getOrDefault(List.of(account, c, 2), BigInteger.ZERO));
        }
        return total.longValueExact();
    }

    long trace(int account, int company, int step) {
        if (!consolidated || !isAccount(account) || !isCompany(company) || step < 0 || step > 2) {
            return NOTHING_THERE;
        }
        return traces.getOrDefault(List.of(account, company, step), BigInteger.ZERO).longValueExact();
    }

    long minority(int company) {
        if (!consolidated || !isCompany(company)) {
            return NOTHING_THERE;
        }
        return minorities.getOrDefault(company, BigInteger.ZERO).longValueExact();
    }

    int openItems() {
        return open.size();
    }

    long openItem(int i, int what) {
        return i < 0 || i >= open.size() || what < 0 || what > 3 ? NOTHING_THERE : open.get(i)[what];
    }

    private BigInteger sum(int company, int account, int partner) {
        return sums.getOrDefault(List.of(company, account, partner), BigInteger.ZERO);
    }

    private boolean isCompany(int company) {
        return company >= 0 && company < companies();
    }

    private boolean isAccount(int account) {
        return account >= 0 && account < accounts();
    }

    private boolean isPlace(int company, int account, int partner) {
        return isCompany(company) && isAccount(account)
            && (partner == NONE || isCompany(partner) && partner != company);
    }
}
