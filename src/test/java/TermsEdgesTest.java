/** The boundary cases of the document's first section and its "Terms": a method for each sentence. */
public final class TermsEdgesTest extends DeskTest {
    public static void main(String[] args) {
        addingUpToNothing();
        callNumber512();
        companies0To11();
        headOfCurrency0();
        currencies0To3();
        groupsRates();
        noRatesUntilTold();
        ratesFrom1To1000000000();
        accounts0To11();
        classes1To4();
        oneReserve();
        debitsAndCredits();
        holdings0To10000();
        noPartOfItself();
        chainsOfFour();
        holdingsOf0MakeNoChain();
        allOfOneCompany();
        controlledHead();
        moreThan5000();
        togetherMoreThan5000();
        leastSuchSet();
        shareOfTheHead();
        sumOverAllChains();
        brokenChains();
        partsOfEachChain();
        CHECKS.end();
    }

    private static void addingUpToNothing() {
        CHECKS.sentence("all of it adding up to nothing");
        ConsolidationDesk x = desk(1, 2);
        x.hold(0, 1, 6667);
        x.hold(1, 2, 7777);
        x.rate(1, 333_333, 1_234_567);
        x.rate(2, 7_654_321, 1);
        for (int c = 0; c < 3; c++) {
            post(x, c, BALANCE, (c + 1) % 3, EQUITY, 1001 + c);
            post(x, c, RESULT, (c + 2) % 3, BALANCE, 77 - c);
            x.historic(c, EQUITY, -333);
        }
        CHECKS.due("consolidate()", x.consolidate(), 0);
        long all = 0;
        for (int a = 0; a < 4; a++) {
            all += x.group(a);
        }
        for (int c = 0; c < 3; c++) {
            all += x.minority(c);
        }
        CHECKS.due("the group and the outside owners", all, 0);
        CHECKS.due("there are some", x.minority(2) != 0, true);
    }

    private static void callNumber512() {
        CHECKS.sentence("An object is used for at most 512 calls after it has been made");
        ConsolidationDesk x = new ConsolidationDesk();
        x.account(1);
        for (int call = 2; call <= 511; call++) {
            CHECKS.due("call " + call, x.post(0, 0, NONE, 1), true);
        }
        CHECKS.due("call 512", x.posted(0, 0, NONE), 510);
        ConsolidationDesk y = new ConsolidationDesk();
        y.account(4);
        for (int call = 2; call <= 512; call++) {
            CHECKS.due("call " + call, y.consolidate(), 0);
        }
    }

    private static void companies0To11() {
        CHECKS.sentence("COMPANIES 0 .. 11");
        ConsolidationDesk x = new ConsolidationDesk();
        x.account(1);
        for (int c = 1; c <= 11; c++) {
            CHECKS.due("company(0)", x.company(0), c);
            CHECKS.due("post to " + c, x.post(c, 0, c - 1, c), true);
        }
        CHECKS.due("company(0), a thirteenth", x.company(0), NONE);
        CHECKS.due("post to 12", x.post(12, 0, NONE, 1), false);
        CHECKS.due("post with 12", x.post(0, 0, 12, 1), false);
        CHECKS.due("post to -1", x.post(-1, 0, NONE, 1), false);
        CHECKS.due("the last has its own book", x.posted(11, 0, 10), 11);
    }

    private static void headOfCurrency0() {
        CHECKS.sentence("0, the HEAD, is there from the beginning, of currency 0");
        ConsolidationDesk x = desk();
        post(x, 0, BALANCE, NONE, EQUITY, 12345);
        CHECKS.due("consolidate() without any rates told", x.consolidate(), 0);
        CHECKS.due("trace", x.trace(BALANCE, 0, 0), 12345);
        CHECKS.due("the first company behind it", x.company(0), 1);
    }

    private static void currencies0To3() {
        CHECKS.sentence("CURRENCIES 0 .. 3");
        ConsolidationDesk x = new ConsolidationDesk();
        for (int wrong : new int[] {-1, 4, MIN, MAX}) {
            CHECKS.due("company(" + wrong + ")", x.company(wrong), NONE);
            CHECKS.due("rate(" + wrong + ")", x.rate(wrong, 1, 1), false);
        }
        for (int currency = 0; currency <= 3; currency++) {
            CHECKS.due("company(" + currency + ")", x.company(currency), currency + 1);
            CHECKS.due("rate(" + currency + ")", x.rate(currency, 1, 1), currency > 0);
        }
    }

    private static void groupsRates() {
        CHECKS.sentence("0 is the group's, with rates 1000000");
        ConsolidationDesk x = wholeDesk(0);
        for (int c = 0; c < 2; c++) {
            post(x, c, BALANCE, NONE, RESULT, LIMIT);
        }
        CHECKS.due("rate(0)", x.rate(0, 2_000_000, 3_000_000), false);
        x.consolidate();
        for (int c = 0; c < 2; c++) {
            CHECKS.due("closing, company " + c, x.trace(BALANCE, c, 0), LIMIT);
            CHECKS.due("average, company " + c, x.trace(RESULT, c, 0), -LIMIT);
            CHECKS.due("reserve, company " + c, x.trace(RESERVE, c, 0), 0);
        }
    }

    private static void noRatesUntilTold() {
        CHECKS.sentence("others have none until they are told");
        for (int currency = 1; currency <= 3; currency++) {
            ConsolidationDesk x = wholeDesk(currency);
            CHECKS.due("consolidate()", x.consolidate(), -100 - currency);
            x.rate(currency % 3 + 1, 1, 1);
            CHECKS.due("consolidate(), the rates of another told", x.consolidate(), -100 - currency);
            x.rate(currency, 1, 1);
            CHECKS.due("consolidate(), told", x.consolidate(), 0);
        }
    }

    private static void ratesFrom1To1000000000() {
        CHECKS.sentence("CLOSING and AVERAGE, in millionths (1 .. 1000000000)");
        ConsolidationDesk x = wholeDesk(1);
        post(x, 1, BALANCE, NONE, RESULT, 1_000_000);
        for (int wrong : new int[] {0, -1, 1_000_000_001, MIN, MAX}) {
            CHECKS.due("closing " + wrong, x.rate(1, wrong, 1), false);
            CHECKS.due("average " + wrong, x.rate(1, 1, wrong), false);
        }
        CHECKS.due("none is there yet", x.consolidate(), -101);
        CHECKS.due("rate(1, 1, 1000000000)", x.rate(1, 1, 1_000_000_000), true);
        x.consolidate();
        CHECKS.due("closing 1", x.trace(BALANCE, 1, 0), 1);
        CHECKS.due("average 1000000000", x.trace(RESULT, 1, 0), -1_000_000_000);
        CHECKS.due("rate(1, 1000000000, 1)", x.rate(1, 1_000_000_000, 1), true);
        x.consolidate();
        CHECKS.due("closing 1000000000", x.trace(BALANCE, 1, 0), 1_000_000_000);
        CHECKS.due("average 1", x.trace(RESULT, 1, 0), -1);
    }

    private static void accounts0To11() {
        CHECKS.sentence("ACCOUNTS 0 .. 11");
        ConsolidationDesk x = new ConsolidationDesk();
        for (int a = 0; a <= 11; a++) {
            CHECKS.due("post to " + a + ", not made yet", x.post(0, a, NONE, 1), false);
            CHECKS.due("account(1)", x.account(1), a);
            CHECKS.due("post to " + a, x.post(0, a, NONE, a), true);
        }
        CHECKS.due("account(1), a thirteenth", x.account(1), NONE);
        CHECKS.due("post to 12", x.post(0, 12, NONE, 1), false);
        CHECKS.due("post to -1", x.post(0, -1, NONE, 1), false);
        CHECKS.due("the last has its own sum", x.posted(0, 11, NONE), 11);
    }

    private static void classes1To4() {
        CHECKS.sentence("each of a CLASS: 1 balance, 2 result, 3 equity, 4 the RESERVE");
        ConsolidationDesk x = bareDesk(1);
        for (int wrong : new int[] {0, 5, -1, MIN, MAX}) {
            CHECKS.due("account(" + wrong + ")", x.account(wrong), NONE);
        }
        for (int sort = 1; sort <= 4; sort++) {
            CHECKS.due("account(" + sort + ")", x.account(sort), sort - 1);
        }
        x.hold(0, 1, 10000);
        x.rate(1, 2_000_000, 3_000_000);
        post(x, 1, BALANCE, NONE, EQUITY, 100);
        post(x, 1, RESULT, NONE, EQUITY, 100);
        x.historic(1, EQUITY, 7);
        x.consolidate();
        CHECKS.due("balance, at closing", x.trace(BALANCE, 1, 0), 200);
        CHECKS.due("result, at average", x.trace(RESULT, 1, 0), 300);
        CHECKS.due("equity, the historic amount", x.trace(EQUITY, 1, 0), 7);
        CHECKS.due("the reserve, the rest", x.trace(RESERVE, 1, 0), -507);
    }

    private static void oneReserve() {
        CHECKS.sentence("4 the RESERVE (one only)");
        ConsolidationDesk x = new ConsolidationDesk();
        CHECKS.due("account(4)", x.account(4), 0);
        CHECKS.due("account(4), a second", x.account(4), NONE);
        CHECKS.due("account(1)", x.account(1), 1);
        CHECKS.due("account(4), a second, later", x.account(4), NONE);
        CHECKS.due("account(3)", x.account(3), 2);
        CHECKS.due("account(2)", x.account(2), 3);
    }

    private static void debitsAndCredits() {
        CHECKS.sentence("Amounts are in cents, debits above 0, credits below");
        ConsolidationDesk x = wholeDesk();
        for (long cents : new long[] {1, -2, 0, LIMIT, -LIMIT}) {
            CHECKS.due("post " + cents, x.post(0, BALANCE, NONE, cents), true);
        }
        CHECKS.due("posted", x.posted(0, BALANCE, NONE), -1);
        x.post(0, RESULT, NONE, 1);
        x.consolidate();
        CHECKS.due("a credit", x.group(BALANCE), -1);
        CHECKS.due("a debit", x.group(RESULT), 1);
    }

    private static void holdings0To10000() {
        CHECKS.sentence("an owner has so many hundredths of a percent (0 .. 10000) of a company");
        ConsolidationDesk x = bareDesk(0);
        for (int wrong : new int[] {-1, 10001, MIN, MAX}) {
            CHECKS.due("hold(0, 1, " + wrong + ")", x.hold(0, 1, wrong), false);
        }
        CHECKS.due("effective(1)", x.effective(1), 0);
        for (int right : new int[] {0, 1, 9999, 10000, 0}) {
            CHECKS.due("hold(0, 1, " + right + ")", x.hold(0, 1, right), true);
            CHECKS.due("effective(1)", x.effective(1), right * (WHOLE / 10000));
        }
    }

    private static void noPartOfItself() {
        CHECKS.sentence("No company has a part of itself, through any chain");
        ConsolidationDesk x = bareDesk(0, 0, 0, 0);
        for (int c = 0; c < 5; c++) {
            CHECKS.due("of itself", x.hold(c, c, 1), false);
            CHECKS.due("the whole of itself", x.hold(c, c, 10000), false);
        }
        for (int c = 1; c < 4; c++) {
            CHECKS.due("a chain of " + c, x.hold(c, c + 1, 1), true);
            CHECKS.due("a chain of " + c + ", back", x.hold(c + 1, 1, 1), false);
        }
        // Without 1 of 2, nothing goes round any more.
        x.hold(1, 2, 0);
        CHECKS.due("back, the chain being broken", x.hold(4, 1, 1), true);
        CHECKS.due("closing it at the other place", x.hold(1, 2, 1), false);
        CHECKS.due("0 is no part", x.hold(1, 1, 0), true);
    }

    private static void chainsOfFour() {
        CHECKS.sentence("no chain has more than four holdings (above 0) one behind the other");
        for (int wanting = 0; wanting < 5; wanting++) {
            // 5 has 4, 4 has 3 and so on, with one place left open: the fifth holding, wherever it comes.
            ConsolidationDesk x = bareDesk(0, 0, 0, 0, 0);
            for (int c = 0; c < 5; c++) {
                CHECKS.due("four of the five", c == wanting || x.hold(c + 1, c, 1), true);
            }
            CHECKS.due("the fifth, place " + wanting, x.hold(wanting + 1, wanting, 1), false);
            int other = (wanting + 1) % 5;
            CHECKS.due("one of the four ends", x.hold(other + 1, other, 0), true);
            CHECKS.due("it is the fourth now", x.hold(wanting + 1, wanting, 1), true);
            CHECKS.due("and the ended one the fifth", x.hold(other + 1, other, 1), false);
        }
    }

    private static void holdingsOf0MakeNoChain() {
        CHECKS.sentence("no chain has more than four holdings (above 0) one behind the other");
        ConsolidationDesk x = bareDesk(0, 0, 0, 0, 0);
        for (int c = 0; c < 4; c++) {
            CHECKS.due("four above 0", x.hold(c, c + 1, 10000), true);
        }
        CHECKS.due("a fifth of 0", x.hold(4, 5, 0), true);
        CHECKS.due("a fifth above 0", x.hold(4, 5, 1), false);
        CHECKS.due("a fourth beside", x.hold(3, 5, 1), true);
        CHECKS.due("one more of the four is changed", x.hold(3, 4, 1), true);
    }

    private static void allOfOneCompany() {
        CHECKS.sentence("all of one company are at most 10000");
        ConsolidationDesk x = bareDesk(0, 0, 0);
        CHECKS.due("9998 of 3", x.hold(0, 3, 9998), true);
        CHECKS.due("1 more", x.hold(1, 3, 1), true);
        CHECKS.due("2 more, 10001", x.hold(2, 3, 2), false);
        CHECKS.due("1 more, 10000", x.hold(2, 3, 1), true);
        CHECKS.due("10000 more", x.hold(2, 3, 10000), false);
        CHECKS.due("one changed, 10001", x.hold(0, 3, 9999), false);
        CHECKS.due("one changed, 9999", x.hold(0, 3, 9997), true);
        CHECKS.due("one changed, 10000", x.hold(0, 3, 9998), true);
        CHECKS.due("of another company", x.hold(0, 2, 10000), true);
    }

    private static void controlledHead() {
        CHECKS.sentence("A company is CONTROLLED if it is the head");
        ConsolidationDesk x = bareDesk(0);
        CHECKS.due("controlled(0)", x.controlled(0), 1);
        x.hold(1, 0, 10000);
        CHECKS.due("controlled(0), held by another", x.controlled(0), 1);
        CHECKS.due("controlled(1), that one", x.controlled(1), 0);
    }

    private static void moreThan5000() {
        CHECKS.sentence("or the controlled ones hold more than 5000 of it");
        ConsolidationDesk x = bareDesk(0);
        int[] parts = {0, 1, 5000, 5001, 10000};
        for (int part : parts) {
            x.hold(0, 1, part);
            CHECKS.due("controlled(1), of " + part, x.controlled(1), part > 5000 ? 1 : 0);
        }
    }

    private static void togetherMoreThan5000() {
        CHECKS.sentence("the controlled ones hold more than 5000 of it together");
        ConsolidationDesk x = bareDesk(0, 0, 0);
        x.hold(0, 1, 5001);
        x.hold(0, 3, 2500);
        x.hold(1, 3, 2500);
        x.hold(2, 3, 5000);
        CHECKS.due("5000 together, and 5000 of another's", x.controlled(3), 0);
        x.hold(2, 3, 0);
        x.hold(1, 3, 2501);
        CHECKS.due("5001 together", x.controlled(3), 1);
        x.hold(0, 1, 5000);
        CHECKS.due("one of them no longer controlled", x.controlled(3), 0);
    }

    private static void leastSuchSet() {
        CHECKS.sentence("(the least such set)");
        // Through the longest chain, against the order of the numbers; 1 to 5 have nothing to do with 6.
        ConsolidationDesk x = bareDesk(0, 0, 0, 0, 0, 0);
        int[] chain = {5, 4, 3, 2};
        int owner = 6;
        for (int owned : chain) {
            x.hold(owner, owned, 10000);
            owner = owned;
        }
        for (int c = 1; c <= 6; c++) {
            CHECKS.due("controlled(" + c + "), whole, but not the head's", x.controlled(c), 0);
        }
        x.hold(6, 5, 0);
        x.hold(0, 5, 5001);
        for (int owned : chain) {
            CHECKS.due("controlled(" + owned + "), the head's", x.controlled(owned), 1);
        }
        CHECKS.due("controlled(1)", x.controlled(1), 0);
        CHECKS.due("controlled(6)", x.controlled(6), 0);
    }

    private static void shareOfTheHead() {
        CHECKS.sentence("Its EFFECTIVE share is the head's: 10 to the power 16 for the head");
        ConsolidationDesk x = bareDesk(0, 0);
        CHECKS.due("effective(0)", x.effective(0), WHOLE);
        x.hold(1, 0, 4000);
        x.hold(1, 2, 4000);
        CHECKS.due("effective(0), held by another", x.effective(0), WHOLE);
        CHECKS.due("effective(1), that other", x.effective(1), 0);
        CHECKS.due("effective(2), that other's", x.effective(2), 0);
    }

    private static void sumOverAllChains() {
        CHECKS.sentence("of others the sum over all chains from the head of the products of their holdings");
        ConsolidationDesk x = bareDesk(0, 0, 0, 0);
        CHECKS.due("effective(4), no chain", x.effective(4), 0);
        x.hold(3, 4, 2500);
        CHECKS.due("effective(4), no chain from the head", x.effective(4), 0);
        x.hold(0, 4, 1);
        CHECKS.due("effective(4), a holding", x.effective(4), WHOLE / 10000);
        x.hold(0, 3, 5000);
        CHECKS.due("effective(4), and a chain of two", x.effective(4), WHOLE / 10000 * 1251);
        x.hold(0, 1, 10000);
        x.hold(1, 2, 10000);
        x.hold(2, 3, 5000);
        CHECKS.due("effective(4), and a chain of four", x.effective(4), WHOLE / 10000 * 2501);
        x.hold(2, 3, 0);
        x.hold(1, 4, 7499);
        CHECKS.due("effective(4), in all", x.effective(4), WHOLE / 10000 * 8750);
        x.hold(0, 3, 10000);
        CHECKS.due("effective(4), all of it the head's", x.effective(4), WHOLE);
    }

    private static void brokenChains() {
        CHECKS.sentence("of others the sum over all chains from the head of the products of their holdings");
        ConsolidationDesk x = bareDesk(0, 0, 0, 0, 0);
        for (int c = 0; c < 4; c++) {
            x.hold(c, c + 1, 10000);
        }
        CHECKS.due("effective(4), a chain of four", x.effective(4), WHOLE);
        x.hold(0, 1, 0);
        CHECKS.due("effective(4), without its first", x.effective(4), 0);
        x.hold(4, 5, 10000);
        CHECKS.due("effective(5), behind it", x.effective(5), 0);
    }

    private static void partsOfEachChain() {
        CHECKS.sentence("each chain as parts of 10 to the power 16 (a chain of k holdings times 10 to the power 4 * (4 - k))");
        ConsolidationDesk x = bareDesk(0, 0, 0, 0);
        for (int part : new int[] {1, 9999, 10000}) {
            long product = 1;
            long unit = WHOLE;
            for (int c = 1; c <= 4; c++) {
                x.hold(c - 1, c, part);
                product *= part;
                unit /= 10000;
                CHECKS.due(part + ", a chain of " + c, x.effective(c), product * unit);
            }
        }
    }
}
