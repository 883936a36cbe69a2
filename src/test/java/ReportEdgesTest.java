/** The boundary cases of books and of consolidation in the document's "Terms": a method for each sentence. */
public final class ReportEdgesTest extends DeskTest {
    public static void main(String[] args) {
        sumsUpToTheLimit();
        sumsDoNotWrapAround();
        nothingWithAPartnerOnEquity();
        nothingOnTheReserve();
        balancedAtNothing();
        theControlledCompanies();
        halvesAwayFrom0();
        theGreatestAmounts();
        eachSumForItself();
        theHistoricAmount();
        theSumItselfInCurrency0();
        whatIsWanting();
        differentSigns();
        oneSign();
        pairsOfTheControlled();
        eachAccountForItself();
        whatIsLeftIsOpen();
        theOrderOfOpenItems();
        netAssets();
        theOutsidersPart();
        theOutsidersPartRounded();
        theOutsidersPartOfGreatAmounts();
        theCredit();
        theGroup();
        twelveOfEach();
        CHECKS.end();
    }

    private static void sumsUpToTheLimit() {
        CHECKS.sentence("a sum of what was posted, at most 10 to the power 12 without its sign");
        for (int sign = -1; sign <= 1; sign += 2) {
            ConsolidationDesk x = desk(0);
            CHECKS.due("beyond it", x.post(0, BALANCE, NONE, sign * (LIMIT + 1)), false);
            CHECKS.due("posted", x.posted(0, BALANCE, NONE), 0);
            CHECKS.due("nearly", x.post(0, BALANCE, NONE, sign * (LIMIT - 1)), true);
            CHECKS.due("2 more", x.post(0, BALANCE, NONE, sign * 2), false);
            CHECKS.due("1 more", x.post(0, BALANCE, NONE, sign), true);
            CHECKS.due("1 more again", x.post(0, BALANCE, NONE, sign), false);
            CHECKS.due("posted", x.posted(0, BALANCE, NONE), sign * LIMIT);
            CHECKS.due("another partner", x.post(0, BALANCE, 1, sign * LIMIT), true);
            CHECKS.due("another account", x.post(0, RESULT, NONE, sign * LIMIT), true);
            CHECKS.due("another company", x.post(1, BALANCE, NONE, sign * LIMIT), true);
            CHECKS.due("to the other end", x.post(0, BALANCE, NONE, -sign * 2 * LIMIT), true);
            CHECKS.due("posted", x.posted(0, BALANCE, NONE), -sign * LIMIT);
        }
    }

    private static void sumsDoNotWrapAround() {
        CHECKS.sentence("a sum of what was posted, at most 10 to the power 12 without its sign");
        ConsolidationDesk x = desk(0);
        for (long start : new long[] {0, LIMIT, -LIMIT}) {
            x.post(0, BALANCE, NONE, start - x.posted(0, BALANCE, NONE));
            // Some make Long.MIN_VALUE of the sum, which has no number without its sign;
            // the last two are 1 and -1 when they are cut to an int.
            long[] wrong = {Long.MAX_VALUE, Long.MIN_VALUE, Long.MIN_VALUE + 1, Long.MAX_VALUE - LIMIT + 1,
                Long.MIN_VALUE + LIMIT, (1L << 32) * 1000 + 1, -(1L << 32) * 1000 - 1};
            for (long cents : wrong) {
                CHECKS.due("post " + cents + " to " + start, x.post(0, BALANCE, NONE, cents), false);
            }
            CHECKS.due("posted", x.posted(0, BALANCE, NONE), start);
        }
    }

    private static void nothingWithAPartnerOnEquity() {
        CHECKS.sentence("On equity nothing is posted with a partner");
        ConsolidationDesk x = desk(0);
        for (long cents : new long[] {1, 0, -1}) {
            CHECKS.due("with a partner, " + cents, x.post(0, EQUITY, 1, cents), false);
            CHECKS.due("without, " + cents, x.post(0, EQUITY, NONE, cents), true);
        }
        CHECKS.due("posted with a partner", x.posted(0, EQUITY, 1), 0);
    }

    private static void nothingOnTheReserve() {
        CHECKS.sentence("on the reserve nothing at all");
        ConsolidationDesk x = desk(0);
        for (long cents : new long[] {1, 0, -1}) {
            CHECKS.due("with a partner, " + cents, x.post(0, RESERVE, 1, cents), false);
            CHECKS.due("without, " + cents, x.post(0, RESERVE, NONE, cents), false);
        }
        CHECKS.due("posted without", x.posted(0, RESERVE, NONE), 0);
        CHECKS.due("posted with a partner", x.posted(0, RESERVE, 1), 0);
    }

    private static void balancedAtNothing() {
        CHECKS.sentence("A book is BALANCED if all its sums together are 0");
        ConsolidationDesk x = desk(0, 0);
        CHECKS.due("an empty one", x.isBalanced(1), 1);
        x.post(1, BALANCE, 0, LIMIT);
        x.post(1, BALANCE, 2, LIMIT);
        x.post(1, RESULT, 0, LIMIT);
        x.post(1, RESULT, NONE, -LIMIT);
        x.post(1, BALANCE, NONE, -LIMIT);
        x.post(1, EQUITY, NONE, -LIMIT + 1);
        CHECKS.due("1 too much", x.isBalanced(1), 0);
        x.post(1, EQUITY, NONE, -1);
        CHECKS.due("all together", x.isBalanced(1), 1);
        x.post(1, RESULT, 2, -1);
        CHECKS.due("1 too little", x.isBalanced(1), 0);
        CHECKS.due("another book", x.isBalanced(2), 1);
    }

    private static void theControlledCompanies() {
        CHECKS.sentence("CONSOLIDATION, of the controlled companies");
        ConsolidationDesk x = desk(0, 0, 0);
        x.hold(0, 1, 5001);
        x.hold(0, 2, 5000);
        for (int c = 0; c < 4; c++) {
            post(x, c, BALANCE, NONE, RESULT, 1L << c);
        }
        x.consolidate();
        CHECKS.due("group", x.group(BALANCE), 3);
        CHECKS.due("trace of 5001", x.trace(BALANCE, 1, 0), 2);
        CHECKS.due("trace of 5000", x.trace(BALANCE, 2, 0), 0);
        CHECKS.due("trace of nobody's", x.trace(BALANCE, 3, 0), 0);
    }

    private static void translated(int rate, long sum, long due) {
        for (int sign = -1; sign <= 1; sign += 2) {
            ConsolidationDesk x = wholeDesk(1);
            x.rate(1, rate, rate);
            post(x, 1, BALANCE, NONE, RESULT, sign * sum);
            x.consolidate();
            String what = sign * sum + " times " + rate;
            CHECKS.due("balance, " + what, x.trace(BALANCE, 1, 0), sign * due);
            CHECKS.due("result, " + what, x.trace(RESULT, 1, 0), -sign * due);
        }
    }

    private static void halvesAwayFrom0() {
        CHECKS.sentence("divided by 1000000 and rounded, halves away from 0");
        translated(499_999, 1, 0);
        translated(500_000, 1, 1);
        translated(500_001, 1, 1);
        translated(1_000_000, 1, 1);
        translated(1_499_999, 1, 1);
        translated(1_500_000, 1, 2);
        translated(500_000, 5, 3);
        translated(1, 499_999, 0);
        translated(1, 500_000, 1);
        translated(1, 1_499_999, 1);
        translated(1, 1_500_000, 2);
        translated(500_000, 1_000_001, 500_001);
        translated(499_999, 1_000_001, 499_999);
    }

    private static void theGreatestAmounts() {
        CHECKS.sentence("each sum of a balance account times CLOSING, of a result account times AVERAGE");
        translated(1_000_000_000, LIMIT, 1000 * LIMIT);
        translated(999_999_999, LIMIT - 1, 999_999_998_999_000L);
        translated(999_999_999, LIMIT, 999_999_999_000_000L);
        translated(1_000_000_000, LIMIT - 1, 1000 * LIMIT - 1000);
        translated(1, LIMIT, 1_000_000);
        translated(1, LIMIT - 1, 1_000_000);
        translated(1_000_000_000, 1, 1000);
    }

    private static void eachSumForItself() {
        CHECKS.sentence("each sum of a balance account");
        ConsolidationDesk x = wholeDesk(1, 0);
        x.rate(1, 500_000, 499_999);
        for (int partner : new int[] {NONE, 0, 2}) {
            x.post(1, BALANCE, partner, 1);
            x.post(1, RESULT, partner, -1);
        }
        x.consolidate();
        CHECKS.due("three halves, each 1", x.trace(BALANCE, 1, 0), 3);
        CHECKS.due("three of less than a half, each 0", x.trace(RESULT, 1, 0), 0);
    }

    private static void theHistoricAmount() {
        CHECKS.sentence("of equity (all together) the historic amount that was told for the company and account (0 if none was");
        ConsolidationDesk x = wholeDesk(1, 1);
        x.account(3);
        x.rate(1, 2_000_000, 3_000_000);
        post(x, 1, BALANCE, NONE, EQUITY, 100);
        post(x, 2, BALANCE, NONE, EQUITY, 100);
        x.consolidate();
        CHECKS.due("none was told", x.trace(EQUITY, 1, 0), 0);
        x.historic(1, EQUITY, LIMIT);
        x.historic(2, 4, -LIMIT);
        x.consolidate();
        CHECKS.due("told for the company and account", x.trace(EQUITY, 1, 0), LIMIT);
        CHECKS.due("not for this company", x.trace(EQUITY, 2, 0), 0);
        CHECKS.due("not for this account", x.trace(4, 1, 0), 0);
        CHECKS.due("told, without a sum", x.trace(4, 2, 0), -LIMIT);
        x.historic(1, EQUITY, 0);
        x.consolidate();
        CHECKS.due("0 was told", x.trace(EQUITY, 1, 0), 0);
    }

    private static void theSumItselfInCurrency0() {
        CHECKS.sentence("in currency 0 the sum itself, whatever was told");
        ConsolidationDesk x = wholeDesk(0);
        for (int c = 0; c < 2; c++) {
            post(x, c, BALANCE, NONE, EQUITY, LIMIT);
        }
        x.historic(1, EQUITY, 5);
        x.consolidate();
        CHECKS.due("nothing was told", x.trace(EQUITY, 0, 0), -LIMIT);
        CHECKS.due("something was told", x.trace(EQUITY, 1, 0), -LIMIT);
    }

    private static void whatIsWanting() {
        CHECKS.sentence("The company's amount of the reserve is what is wanting to 0: all its other amounts together, with the other sign");
        ConsolidationDesk x = wholeDesk(1);
        x.rate(1, 1_000_000, 1_000_000);
        post(x, 1, BALANCE, 0, EQUITY, 100);
        post(x, 1, RESULT, 0, BALANCE, 30);
        long[] historics = {-100, -99, -101, 0, LIMIT};
        for (long historic : historics) {
            x.historic(1, EQUITY, historic);
            x.consolidate();
            CHECKS.due("at " + historic, x.trace(RESERVE, 1, 0), -100 - historic);
        }
        CHECKS.due("the head's, where nothing is wanting", x.trace(RESERVE, 0, 0), 0);
    }

    /** What the head has with 1, and 1 with the head, and what is left of both. */
    private static void eliminated(long here, long there, long leftHere, long leftThere) {
        ConsolidationDesk x = wholeDesk(0);
        post(x, 0, BALANCE, 1, RESULT, here);
        post(x, 1, BALANCE, 0, RESULT, there);
        x.consolidate();
        String what = here + " and " + there;
        CHECKS.due("the head's before, " + what, x.trace(BALANCE, 0, 0), here);
        CHECKS.due("the head's left, " + what, x.trace(BALANCE, 0, 1), leftHere);
        CHECKS.due("the other's left, " + what, x.trace(BALANCE, 1, 1), leftThere);
        CHECKS.due("open, " + what, x.openItems(), (leftHere == 0 ? 0 : 1) + (leftThere == 0 ? 0 : 1));
    }

    private static void differentSigns() {
        CHECKS.sentence("if they have different signs, are made less (nearer to 0) by the smaller one of the two without signs");
        eliminated(1, -1, 0, 0);
        eliminated(-1, 1, 0, 0);
        eliminated(2, -1, 1, 0);
        eliminated(1, -2, 0, -1);
        eliminated(-2, 1, -1, 0);
        eliminated(-1, 2, 0, 1);
        eliminated(LIMIT, -LIMIT, 0, 0);
        eliminated(LIMIT, -1, LIMIT - 1, 0);
        eliminated(0, -5, 0, -5);
        eliminated(5, 0, 5, 0);
        eliminated(0, 0, 0, 0);
    }

    private static void oneSign() {
        CHECKS.sentence("What is left of either (also of those with one sign)");
        eliminated(1, 1, 1, 1);
        eliminated(-1, -1, -1, -1);
        eliminated(7, 3, 7, 3);
        eliminated(-LIMIT, -LIMIT, -LIMIT, -LIMIT);
    }

    private static void pairsOfTheControlled() {
        CHECKS.sentence("for each pair of controlled companies");
        ConsolidationDesk x = wholeDesk(0, 0);
        for (int c = 0; c < 3; c++) {
            post(x, c, BALANCE, (c + 1) % 3, RESULT, 10);
            post(x, c, BALANCE, (c + 2) % 3, RESULT, -10);
        }
        x.consolidate();
        CHECKS.due("open, all three", x.openItems(), 0);
        x.hold(0, 2, 5000);
        post(x, 0, BALANCE, 2, RESULT, 1);
        x.consolidate();
        CHECKS.due("open, without 2", x.openItems(), 0);
        CHECKS.due("with 2 it stays", x.trace(BALANCE, 0, 1), -9);
        CHECKS.due("with 2 it stays in 1", x.trace(BALANCE, 1, 1), 10);
    }

    private static void eachAccountForItself() {
        CHECKS.sentence("and each account");
        ConsolidationDesk x = wholeDesk(0);
        x.account(1);
        post(x, 0, BALANCE, 1, BALANCE, 10);
        post(x, 1, 4, 0, BALANCE, -10);
        post(x, 0, RESULT, 1, BALANCE, 3);
        post(x, 1, RESULT, 0, BALANCE, -3);
        x.consolidate();
        CHECKS.due("not against another account", x.openItems(), 2);
        CHECKS.due("of the first", x.openItem(0, 2), BALANCE);
        CHECKS.due("of the last", x.openItem(1, 2), 4);
        CHECKS.due("of a result account, too", x.trace(RESULT, 0, 1), 0);
    }

    private static void whatIsLeftIsOpen() {
        CHECKS.sentence("and is not 0 is an OPEN ITEM");
        ConsolidationDesk x = wholeDesk(1);
        x.rate(1, 499_999, 500_000);
        post(x, 1, BALANCE, 0, BALANCE, 1);
        post(x, 1, BALANCE, NONE, RESULT, 50);
        x.consolidate();
        CHECKS.due("what became 0 by its rate", x.openItems(), 0);
        x.rate(1, 500_000, 500_000);
        x.consolidate();
        CHECKS.due("what became 1", x.openItems(), 1);
        CHECKS.due("what became 1, left", x.openItem(0, 3), 1);
        post(x, 0, BALANCE, 1, BALANCE, -1);
        x.consolidate();
        CHECKS.due("taken out", x.openItems(), 0);
    }

    private static void theOrderOfOpenItems() {
        CHECKS.sentence("in the order of company, then partner, then account");
        ConsolidationDesk x = wholeDesk(0, 0);
        for (int c = 2; c >= 0; c--) {
            for (int account = RESULT; account >= BALANCE; account--) {
                for (int partner = 2; partner >= 0; partner--) {
                    x.post(c, account, partner, account == BALANCE ? 5 : -5);
                }
            }
        }
        x.consolidate();
        CHECKS.due("openItems()", x.openItems(), 12);
        int i = 0;
        for (int c = 0; c < 3; c++) {
            for (int partner = 0; partner < 3; partner++) {
                for (int account = BALANCE; account <= RESULT && partner != c; account++) {
                    CHECKS.due("company of " + i, x.openItem(i, 0), c);
                    CHECKS.due("partner of " + i, x.openItem(i, 1), partner);
                    CHECKS.due("account of " + i, x.openItem(i, 2), account);
                    i++;
                }
            }
        }
    }

    private static void netAssets() {
        CHECKS.sentence("a company's NET ASSETS are its translated balance accounts together (before elimination)");
        ConsolidationDesk x = desk(1);
        x.account(1);
        x.hold(0, 1, 6000);
        x.rate(1, 2_000_000, 1_000_000);
        post(x, 1, BALANCE, 0, RESULT, 100);
        post(x, 1, 4, NONE, EQUITY, 1000);
        post(x, 0, BALANCE, 1, RESULT, -200);
        x.historic(1, EQUITY, -77);
        x.consolidate();
        CHECKS.due("elimination", x.trace(BALANCE, 1, 1), 0);
        CHECKS.due("minority, four tenths of 2200", x.minority(1), -880);
    }

    private static void theOutsidersPart() {
        CHECKS.sentence("Their part of a controlled company is that times (10 to the power 16 less the effective share)");
        ConsolidationDesk x = desk(0, 0, 0, 0);
        for (int c = 0; c < 5; c++) {
            post(x, c, BALANCE, NONE, EQUITY, 1_000_000);
        }
        x.hold(0, 1, 10000);
        x.hold(0, 2, 5001);
        x.hold(2, 3, 5001);
        x.hold(0, 4, 5000);
        x.consolidate();
        CHECKS.due("the head: all is its own", x.minority(0), 0);
        CHECKS.due("held whole", x.minority(1), 0);
        CHECKS.due("held just enough", x.minority(2), -499_900);
        CHECKS.due("held just enough by that one", x.minority(3), -749_900);
        CHECKS.due("not controlled", x.minority(4), 0);
        x.hold(0, 1, 9999);
        x.consolidate();
        CHECKS.due("held but for 1", x.minority(1), -100);
    }

    private static void outsiders(int part, long assets, long due) {
        for (int sign = -1; sign <= 1; sign += 2) {
            ConsolidationDesk x = desk(0);
            x.hold(0, 1, part);
            post(x, 1, BALANCE, NONE, EQUITY, sign * assets);
            x.consolidate();
            CHECKS.due("minority of " + sign * assets + ", held " + part, x.minority(1), -sign * due);
        }
    }

    private static void theOutsidersPartRounded() {
        CHECKS.sentence("divided by 10 to the power 16, rounded as above");
        outsiders(7500, 1, 0);
        outsiders(7500, 2, 1);
        outsiders(7501, 2, 0);
        outsiders(7499, 2, 1);
        outsiders(7500, 6, 2);
        outsiders(7500, 10, 3);
        outsiders(9999, 4999, 0);
        outsiders(9999, 5000, 1);
        outsiders(9999, 14_999, 1);
        outsiders(9999, 15_000, 2);
        outsiders(9999, LIMIT, 100_000_000);
        outsiders(5001, 1, 0);
        outsiders(5001, 0, 0);
    }

    private static void theOutsidersPartOfGreatAmounts() {
        CHECKS.sentence("divided by 10 to the power 16, rounded as above");
        ConsolidationDesk x = desk(0, 0, 0, 0);
        for (int c = 0; c < 4; c++) {
            x.hold(c, c + 1, 5001);
        }
        // 9374499849979999 parts of them: less than a half by 2 * 10^-13, and more by 6 * 10^-13.
        long[] assets = {499_960_002_000L, 937_375_013_749L};
        long[] parts = {468_687_496_374L, 878_742_192_577L};
        for (int i = 0; i < 2; i++) {
            for (int sign = -1; sign <= 1; sign += 2) {
                post(x, 4, BALANCE, NONE, EQUITY, sign * assets[i] - x.posted(4, BALANCE, NONE));
                x.consolidate();
                CHECKS.due("minority of " + sign * assets[i], x.minority(4), -sign * parts[i]);
            }
        }
        ConsolidationDesk y = desk(0, 0, 0, 1);
        for (int c = 0; c < 4; c++) {
            y.hold(c, c + 1, 5001);
        }
        y.rate(1, 1_000_000_000, 1);
        for (int partner = NONE; partner < 4; partner++) {
            y.post(4, BALANCE, partner, LIMIT);
            y.post(4, RESULT, partner, -LIMIT);
        }
        y.consolidate();
        CHECKS.due("a half, of 5 * 10^15", y.minority(4), -4_687_249_924_990_000L);
    }

    private static void theCredit() {
        CHECKS.sentence("It is shown as a credit, MINORITY (with the other sign), and added to the company's amount of the reserve");
        ConsolidationDesk x = desk(1);
        x.hold(0, 1, 7500);
        x.rate(1, 1_000_000, 1_000_000);
        for (int sign = -1; sign <= 1; sign += 2) {
            post(x, 1, BALANCE, NONE, EQUITY, sign * 400 - x.posted(1, BALANCE, NONE));
            x.consolidate();
            CHECKS.due("minority", x.minority(1), -sign * 100);
            CHECKS.due("the reserve before", x.trace(RESERVE, 1, 1), -sign * 400);
            CHECKS.due("the reserve behind", x.trace(RESERVE, 1, 2), -sign * 300);
            CHECKS.due("another account", x.trace(BALANCE, 1, 2), sign * 400);
            CHECKS.due("the group's reserve", x.group(RESERVE), -sign * 300);
        }
    }

    private static void theGroup() {
        CHECKS.sentence("The GROUP has for each account the sum of the companies' amounts, with all partners");
        ConsolidationDesk x = desk(0, 0);
        x.hold(0, 1, 5001);
        post(x, 0, BALANCE, NONE, RESULT, 1);
        post(x, 0, BALANCE, 1, RESULT, 20);
        post(x, 0, BALANCE, 2, RESULT, 400);
        post(x, 1, BALANCE, NONE, RESULT, 8000);
        post(x, 1, BALANCE, 0, RESULT, -19);
        post(x, 1, BALANCE, 2, RESULT, 160_000);
        post(x, 2, BALANCE, NONE, RESULT, 3_200_000);
        x.consolidate();
        CHECKS.due("group of the balance account", x.group(BALANCE), 168_402);
        CHECKS.due("group of the result account", x.group(RESULT), -168_402);
        CHECKS.due("group of one that nobody used", x.group(EQUITY), 0);
        CHECKS.due("group of the reserve, the outsiders'", x.group(RESERVE), -x.minority(1));
    }

    private static void twelveOfEach() {
        CHECKS.sentence("COMPANIES 0 .. 11 .. ACCOUNTS 0 .. 11 .. for each pair of controlled companies and each account");
        ConsolidationDesk x = new ConsolidationDesk();
        for (int a = 0; a < 12; a++) {
            x.account(a == 5 ? 4 : 1 + a % 2);
        }
        for (int c = 1; c < 12; c++) {
            x.company(0);
            x.hold(0, c, 9000);
        }
        for (int c = 0; c < 12; c++) {
            for (int partner = 0; partner < 12; partner++) {
                postOfOneSign(x, c, partner);
            }
        }
        CHECKS.due("consolidate()", x.consolidate(), 0);
        CHECKS.due("group(0), 36 pairs of debits and 30 of credits", x.group(0), 120);
        CHECKS.due("group(11)", x.group(11), -360);
        CHECKS.due("the last account of the last company", x.trace(11, 11, 1), -30);
        CHECKS.due("the last company's reserve", x.trace(5, 11, 2), 3);
        CHECKS.due("the last company's outside owners", x.minority(11), -3);
        CHECKS.due("all are open", x.openItems(), 396);
        long[] last = {11, 10, 11, -30};
        for (int what = 0; what < 4; what++) {
            CHECKS.due("the last one, " + what, x.openItem(395, what), last[what]);
        }
    }

    /** Of one sign for a pair and account, so that nothing is taken out, but of both signs among the pairs. */
    private static void postOfOneSign(ConsolidationDesk x, int company, int partner) {
        int sign = Math.min(company, partner) % 2 == 0 ? 1 : -1;
        if (company != partner) {
            x.post(company, 0, partner, sign * 10);
            x.post(company, 10, partner, sign * 20);
            x.post(company, 11, partner, sign * -30);
        }
    }
}
