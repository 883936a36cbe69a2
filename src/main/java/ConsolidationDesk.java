import java.util.Arrays;
import java.util.NoSuchElementException;

/**
 * A desk that makes one set of accounts of a group of companies. The numbers
 * in brackets below are those of the promises in the project's document.
 */
public final class ConsolidationDesk {
    public static final int NONE = -1;

    private static final int COMPANIES = 12;
    private static final int CURRENCIES = 4;
    private static final int ACCOUNTS = 12;
    /** NONE has a row in a book beside those of the companies. */
    private static final int PARTNERS = COMPANIES + 1;
    private static final int BOOK_PLACES = COMPANIES * PARTNERS * ACCOUNTS;

    private static final int HEAD = 0;
    private static final int GROUP_CURRENCY = 0;

    private static final int BALANCE = 1;
    private static final int RESULT = 2;
    private static final int EQUITY = 3;
    private static final int RESERVE = 4;

    private static final int TRANSLATED = 0;
    private static final int ELIMINATED = 1;
    private static final int OUTSIDERS_SHOWN = 2;
    private static final int STEPS = 3;

    private static final int RATE_UNIT = 1000000;
    private static final int RATE_LIMIT = 1000000000;
    private static final long AMOUNT_LIMIT = 1000000000000L;

    private static final int WHOLE_COMPANY = 10000;
    private static final int HALF_COMPANY = 5000;
    private static final int CHAIN_LIMIT = 4;
    private static final long WHOLE_SHARE = 10000000000000000L;
    private static final long SHARE_ROOT = 100000000L;

    private int companies;
    private final int[] currencyOf;
    private int accounts;
    private final int[] sortOf;
    private int reserve;
    /** 0 stands for a rate that was not told. */
    private final int[] closingRates;
    private final int[] averageRates;
    private final long[] sums;
    private final long[] historicAmounts;
    private final Holdings holdings;
    private final Report report;

    /** [1] */
    public ConsolidationDesk() {
        companies = 1;
        currencyOf = new int[COMPANIES];
        accounts = 0;
        sortOf = new int[ACCOUNTS];
        reserve = NONE;
        closingRates = new int[CURRENCIES];
        averageRates = new int[CURRENCIES];
        closingRates[GROUP_CURRENCY] = RATE_UNIT;
        averageRates[GROUP_CURRENCY] = RATE_UNIT;
        sums = new long[BOOK_PLACES];
        historicAmounts = new long[COMPANIES * ACCOUNTS];
        holdings = new Holdings();
        report = new Report();
    }

    /** [2] */
    public int company(int currency) {
        if (!isCurrency(currency) || companies == COMPANIES) {
            return NONE;
        }
        currencyOf[companies] = currency;
        companies++;
        return companies - 1;
    }

    /** [3] */
    public int account(int sort) {
        if (sort < BALANCE || sort > RESERVE || accounts == ACCOUNTS) {
            return NONE;
        }
        if (sort == RESERVE) {
            if (reserve != NONE) {
                return NONE;
            }
            reserve = accounts;
        }
        sortOf[accounts] = sort;
        accounts++;
        return accounts - 1;
    }

    /** [4] */
    public boolean hold(int owner, int owned, int hundredths) {
        if (!isCompany(owner) || !isCompany(owned)) {
            return false;
        }
        if (hundredths < 0 || hundredths > WHOLE_COMPANY) {
            return false;
        }
        return holdings.change(owner, owned, hundredths);
    }

    /** [5] */
    public boolean rate(int currency, int closing, int average) {
        if (!isCurrency(currency) || currency == GROUP_CURRENCY) {
            return false;
        }
        if (!isRate(closing) || !isRate(average)) {
            return false;
        }
        closingRates[currency] = closing;
        averageRates[currency] = average;
        return true;
    }

    /** [6] */
    public boolean post(int company, int account, int partner, long cents) {
        if (!isPlace(company, account, partner) || !takes(account, partner)) {
            return false;
        }
        int place = place(company, partner, account);
        long before = sums[place];
        // Compared with the room that is left, since the new sum itself could wrap around.
        if (cents > AMOUNT_LIMIT - before || cents < -AMOUNT_LIMIT - before) {
            return false;
        }
        sums[place] = before + cents;
        return true;
    }

    /** [7] */
    public boolean historic(int company, int account, long cents) {
        if (!isCompany(company) || !isAccount(account) || sortOf[account] != EQUITY) {
            return false;
        }
        if (cents > AMOUNT_LIMIT || cents < -AMOUNT_LIMIT) {
            return false;
        }
        historicAmounts[company * ACCOUNTS + account] = cents;
        return true;
    }

    /** [8] */
    public long posted(int company, int account, int partner) throws NoSuchElementException {
        if (!isPlace(company, account, partner)) {
            throw new NoSuchElementException();
        }
        return sums[place(company, partner, account)];
    }

    /** [9] */
    public int isBalanced(int company) {
        if (!isCompany(company)) {
            return NONE;
        }
        return bookTotal(company) == 0 ? 1 : 0;
    }

    /** [10] */
    public int controlled(int company) {
        if (!isCompany(company)) {
            return NONE;
        }
        return holdings.isControlled(company) ? 1 : 0;
    }

    /** [11] */
    public long effective(int company) {
        if (!isCompany(company)) {
            return NONE;
        }
        return holdings.headShare(company);
    }

    /** [12] */
    public int consolidate() {
        int hindrance = findHindrance();
        if (hindrance != 0) {
            return hindrance;
        }
        report.begin(companies, accounts);
        for (int c = 0; c < companies; c++) {
            if (holdings.isControlled(c)) {
                translateBook(c);
            }
        }
        report.keepStep(TRANSLATED);
        eliminatePairs();
        report.keepStep(ELIMINATED);
        for (int c = 0; c < companies; c++) {
            if (holdings.isControlled(c)) {
                showOutsiders(c);
            }
        }
        report.keepStep(OUTSIDERS_SHOWN);
        report.finish();
        return 0;
    }

    /** [13] */
    public long group(int account) throws NoSuchElementException {
        if (!report.isMade() || !isAccount(account)) {
            throw new NoSuchElementException();
        }
        return report.groupAmount(account);
    }

    /** [14] */
    public long trace(int account, int company, int step) throws NoSuchElementException {
        if (!report.isMade() || !isAccount(account) || !isCompany(company)) {
            throw new NoSuchElementException();
        }
        if (step < 0 || step >= STEPS) {
            throw new NoSuchElementException();
        }
        return report.stepAmount(step, company, account);
    }

    /** [15] */
    public long minority(int company) throws NoSuchElementException {
        if (!report.isMade() || !isCompany(company)) {
            throw new NoSuchElementException();
        }
        return report.outsidersCredit(company);
    }

    /** [16] */
    public int openItems() {
        return report.openCount();
    }

    /** [17] */
    public long openItem(int i, int what) throws NoSuchElementException {
        if (i < 0 || i >= report.openCount()) {
            throw new NoSuchElementException();
        }
        switch (what) {
            case 0:
                return report.openCompany(i);
            case 1:
                return report.openPartner(i);
            case 2:
                return report.openAccount(i);
            case 3:
                return report.openAmount(i);
            default:
                throw new NoSuchElementException();
        }
    }

    private static boolean isCurrency(int currency) {
        return currency >= 0 && currency < CURRENCIES;
    }

    private static boolean isRate(int millionths) {
        return millionths >= 1 && millionths <= RATE_LIMIT;
    }

    private boolean isCompany(int company) {
        return company >= 0 && company < companies;
    }

    private boolean isAccount(int account) {
        return account >= 0 && account < accounts;
    }

    private boolean isPartnerOf(int company, int partner) {
        return partner == NONE || isCompany(partner) && partner != company;
    }

    private boolean isPlace(int company, int account, int partner) {
        return isCompany(company) && isAccount(account) && isPartnerOf(company, partner);
    }

    private boolean takes(int account, int partner) {
        int sort = sortOf[account];
        return sort != RESERVE && (sort != EQUITY || partner == NONE);
    }

    /** Places go by company, then partner, then account: the order of the open items. */
    private static int place(int company, int partner, int account) {
        return (company * PARTNERS + partner + 1) * ACCOUNTS + account;
    }

    private long bookTotal(int company) {
        long total = 0;
        for (int partner = NONE; partner < companies; partner++) {
            for (int a = 0; a < accounts; a++) {
                total += sums[place(company, partner, a)];
            }
        }
        return total;
    }

    private int findHindrance() {
        int unbalanced = leastUnbalanced();
        if (unbalanced != NONE) {
            return -1 - unbalanced;
        }
        int currency = leastWithoutRates();
        if (currency != NONE) {
            return -100 - currency;
        }
        return reserve == NONE ? -200 : 0;
    }

    private int leastUnbalanced() {
        for (int c = 0; c < companies; c++) {
            if (holdings.isControlled(c) && bookTotal(c) != 0) {
                return c;
            }
        }
        return NONE;
    }

    private int leastWithoutRates() {
        int least = NONE;
        for (int c = 0; c < companies; c++) {
            int currency = currencyOf[c];
            if (holdings.isControlled(c) && closingRates[currency] == 0) {
                least = least == NONE ? currency : Math.min(least, currency);
            }
        }
        return least;
    }

    private void translateBook(int company) {
        long total = 0;
        for (int partner = NONE; partner < companies; partner++) {
            for (int a = 0; a < accounts; a++) {
                long amount = translatedSum(company, partner, a);
                report.add(company, partner, a, amount);
                total += amount;
            }
        }
        report.add(company, NONE, reserve, -total);
    }

    private long translatedSum(int company, int partner, int account) {
        long sum = sums[place(company, partner, account)];
        int currency = currencyOf[company];
        switch (sortOf[account]) {
            case BALANCE:
                return timesRate(sum, closingRates[currency]);
            case RESULT:
                return timesRate(sum, averageRates[currency]);
            case EQUITY:
                if (currency == GROUP_CURRENCY) {
                    return sum;
                }
                // Told once for the whole account, so it must not count again for every partner.
                return partner == NONE ? historicAmounts[company * ACCOUNTS + account] : 0;
            default:
                return 0;
        }
    }

    private void eliminatePairs() {
        for (int c = 0; c < companies; c++) {
            for (int other = c + 1; other < companies; other++) {
                if (holdings.isControlled(c) && holdings.isControlled(other)) {
                    report.eliminate(c, other);
                }
            }
        }
        for (int c = 0; c < companies; c++) {
            for (int other = 0; other < companies; other++) {
                if (c != other && holdings.isControlled(c) && holdings.isControlled(other)) {
                    report.listOpen(c, other);
                }
            }
        }
    }

    private void showOutsiders(int company) {
        long netAssets = 0;
        for (int a = 0; a < accounts; a++) {
            if (sortOf[a] == BALANCE) {
                netAssets += report.stepAmount(TRANSLATED, company, a);
            }
        }
        long outsideShare = WHOLE_SHARE - holdings.headShare(company);
        long part = timesShare(netAssets, outsideShare);
        report.setOutsidersCredit(company, -part);
        report.add(company, NONE, reserve, part);
    }

    /** In two pieces, since an amount of 10^12 times a rate of 10^9 is beyond a long. */
    private static long timesRate(long amount, int millionths) {
        long size = Math.abs(amount);
        long units = size / RATE_UNIT * millionths;
        long rest = size % RATE_UNIT * millionths;
        long translated = units + (rest + RATE_UNIT / 2) / RATE_UNIT;
        return amount < 0 ? -translated : translated;
    }

    /** In digits of 10^8, since net assets of 10^17 times a share of 10^16 are beyond a long. */
    private static long timesShare(long amount, long share) {
        long size = Math.abs(amount);
        long high = size / SHARE_ROOT;
        long low = size % SHARE_ROOT;
        long shareHigh = share / SHARE_ROOT;
        long shareLow = share % SHARE_ROOT;
        long middle = high * shareLow + low * shareHigh;
        long rest = middle % SHARE_ROOT * SHARE_ROOT + low * shareLow;
        long part = high * shareHigh + middle / SHARE_ROOT + (rest + WHOLE_SHARE / 2) / WHOLE_SHARE;
        return amount < 0 ? -part : part;
    }

    /** Who has how much of whom, and what follows from it for control and shares. */
    private static final class Holdings {
        private final int[] parts;
        private final int[] chainLengths;
        private final boolean[] underControl;
        private final long[] shares;
        private final long[] chainShares;
        private final long[] longerChainShares;

        Holdings() {
            parts = new int[COMPANIES * COMPANIES];
            chainLengths = new int[COMPANIES];
            underControl = new boolean[COMPANIES];
            shares = new long[COMPANIES];
            chainShares = new long[COMPANIES];
            longerChainShares = new long[COMPANIES];
            underControl[HEAD] = true;
            shares[HEAD] = WHOLE_SHARE;
        }

        boolean isControlled(int company) {
            return underControl[company];
        }

        long headShare(int company) {
            return shares[company];
        }

        boolean change(int owner, int owned, int hundredths) {
            int place = owner * COMPANIES + owned;
            int before = parts[place];
            parts[place] = hundredths;
            if (heldInAll(owned) > WHOLE_COMPANY || hasTooLongChain()) {
                parts[place] = before;
                return false;
            }
            findControl();
            findShares();
            return true;
        }

        private int heldInAll(int owned) {
            int total = 0;
            for (int owner = 0; owner < COMPANIES; owner++) {
                total += parts[owner * COMPANIES + owned];
            }
            return total;
        }

        /** A company with a part of itself is found here too: its chain goes round without end. */
        private boolean hasTooLongChain() {
            Arrays.fill(chainLengths, 0);
            int longest = 0;
            for (int round = 0; round <= CHAIN_LIMIT; round++) {
                longest = lengthenChains(longest);
            }
            return longest > CHAIN_LIMIT;
        }

        private int lengthenChains(int longest) {
            int longestNow = longest;
            for (int owner = 0; owner < COMPANIES; owner++) {
                for (int owned = 0; owned < COMPANIES; owned++) {
                    int length = chainLengths[owner] + 1;
                    if (parts[owner * COMPANIES + owned] > 0 && length > chainLengths[owned]) {
                        chainLengths[owned] = length;
                        longestNow = Math.max(longestNow, length);
                    }
                }
            }
            return longestNow;
        }

        private void findControl() {
            for (int c = 0; c < COMPANIES; c++) {
                underControl[c] = c == HEAD;
            }
            // Control hangs on owners alone, so it is settled after one round for each link of a chain.
            for (int round = 0; round < CHAIN_LIMIT; round++) {
                for (int c = 0; c < COMPANIES; c++) {
                    underControl[c] = underControl[c] || heldUnderControl(c) > HALF_COMPANY;
                }
            }
        }

        private int heldUnderControl(int owned) {
            int total = 0;
            for (int owner = 0; owner < COMPANIES; owner++) {
                if (underControl[owner]) {
                    total += parts[owner * COMPANIES + owned];
                }
            }
            return total;
        }

        private void findShares() {
            Arrays.fill(shares, 0);
            shares[HEAD] = WHOLE_SHARE;
            Arrays.fill(chainShares, 0);
            chainShares[HEAD] = WHOLE_SHARE;
            for (int links = 1; links <= CHAIN_LIMIT; links++) {
                addLink();
                for (int c = 0; c < COMPANIES; c++) {
                    shares[c] += chainShares[c];
                }
            }
        }

        private void addLink() {
            Arrays.fill(longerChainShares, 0);
            for (int owner = 0; owner < COMPANIES; owner++) {
                // Leaves no rest: chains of k links are multiples of 10^(16 - 4k), and k is below 4 here.
                long hundredth = chainShares[owner] / WHOLE_COMPANY;
                for (int owned = 0; owned < COMPANIES; owned++) {
                    longerChainShares[owned] += hundredth * parts[owner * COMPANIES + owned];
                }
            }
            System.arraycopy(longerChainShares, 0, chainShares, 0, COMPANIES);
        }
    }

    /** The latest consolidation; companies that it left out have 0 everywhere. */
    private static final class Report {
        private boolean made;
        private int companies;
        private int accounts;
        private final long[] amounts;
        private final long[] stepAmounts;
        private final long[] groupAmounts;
        private final long[] outsidersCredits;
        private final int[] openPlaces;
        private int open;

        Report() {
            made = false;
            companies = 0;
            accounts = 0;
            amounts = new long[BOOK_PLACES];
            stepAmounts = new long[STEPS * COMPANIES * ACCOUNTS];
            groupAmounts = new long[ACCOUNTS];
            outsidersCredits = new long[COMPANIES];
            openPlaces = new int[COMPANIES * (COMPANIES - 1) * ACCOUNTS];
            open = 0;
        }

        void begin(int companiesNow, int accountsNow) {
            companies = companiesNow;
            accounts = accountsNow;
            Arrays.fill(amounts, 0);
            Arrays.fill(stepAmounts, 0);
            Arrays.fill(groupAmounts, 0);
            Arrays.fill(outsidersCredits, 0);
            open = 0;
        }

        void add(int company, int partner, int account, long amount) {
            amounts[place(company, partner, account)] += amount;
        }

        void setOutsidersCredit(int company, long amount) {
            outsidersCredits[company] = amount;
        }

        void keepStep(int step) {
            for (int c = 0; c < companies; c++) {
                for (int partner = NONE; partner < companies; partner++) {
                    for (int a = 0; a < accounts; a++) {
                        stepAmounts[stepPlace(step, c, a)] += amounts[place(c, partner, a)];
                    }
                }
            }
        }

        void eliminate(int company, int other) {
            for (int a = 0; a < accounts; a++) {
                int here = place(company, other, a);
                int there = place(other, company, a);
                long cut = Math.min(Math.abs(amounts[here]), Math.abs(amounts[there]));
                if (amounts[here] > 0 && amounts[there] < 0) {
                    amounts[here] -= cut;
                    amounts[there] += cut;
                } else if (amounts[here] < 0 && amounts[there] > 0) {
                    amounts[here] += cut;
                    amounts[there] -= cut;
                }
            }
        }

        void listOpen(int company, int partner) {
            for (int a = 0; a < accounts; a++) {
                int place = place(company, partner, a);
                if (amounts[place] != 0 && open < openPlaces.length) {
                    openPlaces[open] = place;
                    open++;
                }
            }
        }

        void finish() {
            for (int c = 0; c < companies; c++) {
                for (int a = 0; a < accounts; a++) {
                    groupAmounts[a] += stepAmount(OUTSIDERS_SHOWN, c, a);
                }
            }
            made = true;
        }

        boolean isMade() {
            return made;
        }

        long groupAmount(int account) {
            return groupAmounts[account];
        }

        long stepAmount(int step, int company, int account) {
            return stepAmounts[stepPlace(step, company, account)];
        }

        long outsidersCredit(int company) {
            return outsidersCredits[company];
        }

        int openCount() {
            return open;
        }

        int openCompany(int i) {
            return openPlaces[i] / (PARTNERS * ACCOUNTS);
        }

        int openPartner(int i) {
            return openPlaces[i] / ACCOUNTS % PARTNERS - 1;
        }

        int openAccount(int i) {
            return openPlaces[i] % ACCOUNTS;
        }

        long openAmount(int i) {
            return amounts[openPlaces[i]];
        }

        private static int stepPlace(int step, int company, int account) {
            return (step * COMPANIES + company) * ACCOUNTS + account;
        }
    }
}
