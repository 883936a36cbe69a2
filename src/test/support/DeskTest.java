/** What the tests of a desk begin with: the numbers of the document, wrong numbers, and desks to start from. */
abstract class DeskTest {
    static final int NONE = ConsolidationDesk.NONE;
    static final int MIN = Integer.MIN_VALUE;
    static final int MAX = Integer.MAX_VALUE;
    static final long LIMIT = 1_000_000_000_000L;
    static final long WHOLE = 10_000_000_000_000_000L;

    static final int BALANCE = 0;
    static final int RESULT = 1;
    static final int EQUITY = 2;
    static final int RESERVE = 3;

    static final Checks CHECKS = new Checks();

    interface DeskCall {
        long answer(ConsolidationDesk x);
    }

    /** Numbers that are not among 0 .. there - 1, where there can be twelve at most. */
    static int[] notAmong(int there) {
        return new int[] {-1, there, 11, 12, -2, -12, MIN, MIN + 1, MAX, MAX - 1};
    }

    /** Numbers that are no partner of a company, where so many companies are there. */
    static int[] notPartnersOf(int company, int there) {
        int[] numbers = notAmong(there);
        numbers[0] = company;
        return numbers;
    }

    /** The head and companies of these currencies, without accounts. */
    static ConsolidationDesk bareDesk(int... currencies) {
        ConsolidationDesk x = new ConsolidationDesk();
        for (int currency : currencies) {
            x.company(currency);
        }
        return x;
    }

    /** The same with an account of each class: BALANCE, RESULT, EQUITY and RESERVE. */
    static ConsolidationDesk desk(int... currencies) {
        ConsolidationDesk x = bareDesk(currencies);
        for (int sort = 1; sort <= 4; sort++) {
            x.account(sort);
        }
        return x;
    }

    /** The same, with all the companies held whole by the head. */
    static ConsolidationDesk wholeDesk(int... currencies) {
        ConsolidationDesk x = desk(currencies);
        for (int c = 1; c <= currencies.length; c++) {
            x.hold(0, c, 10000);
        }
        return x;
    }

    /** Posts to an account, and the other side of it without a partner, so that the book stays balanced. */
    static void post(ConsolidationDesk x, int company, int account, int partner, int against, long cents) {
        x.post(company, account, partner, cents);
        x.post(company, against, NONE, -cents);
    }
}
