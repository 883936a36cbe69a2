/** Promises 1 (a new object), 2 (company), 3 (account) and 5 (rate). */
public final class SetupTest extends DeskTest {
    public static void main(String[] args) {
        newObject();
        objectsAreApart();
        companies();
        accounts();
        oneReserve();
        rates();
        CHECKS.end();
    }

    private static void newObject() {
        ConsolidationDesk x = new ConsolidationDesk();
        CHECKS.due("1: controlled(0)", x.controlled(0), 1);
        CHECKS.due("1: effective(0)", x.effective(0), 10_000_000_000_000_000L);
        CHECKS.due("1: isBalanced(0)", x.isBalanced(0), 1);
        CHECKS.due("1: controlled(1)", x.controlled(1), NONE);
        CHECKS.due("1: openItems()", x.openItems(), 0);
        CHECKS.throwsNoSuchElement("1: posted without accounts", () -> x.posted(0, 0, NONE));
        CHECKS.throwsNoSuchElement("1: minority before any", () -> x.minority(0));
        CHECKS.due("1: the head alone, without a reserve", x.consolidate(), -200);
    }

    private static void objectsAreApart() {
        ConsolidationDesk x = new ConsolidationDesk();
        ConsolidationDesk y = new ConsolidationDesk();
        x.company(1);
        x.account(4);
        x.hold(0, 1, 10000);
        x.rate(1, 5, 5);
        x.consolidate();
        CHECKS.due("1: another object's companies", y.controlled(1), NONE);
        CHECKS.due("1: another object's accounts", y.account(4), 0);
        CHECKS.throwsNoSuchElement("1: another object's consolidation", () -> y.group(0));
        y.company(1);
        CHECKS.due("1: another object's holdings", y.controlled(1), 0);
        y.hold(0, 1, 10000);
        CHECKS.due("1: another object's rates", y.consolidate(), -101);
    }

    private static void companies() {
        ConsolidationDesk x = new ConsolidationDesk();
        CHECKS.due("2: company(-1)", x.company(-1), NONE);
        CHECKS.due("2: company(4)", x.company(4), NONE);
        CHECKS.due("2: company(MIN)", x.company(Integer.MIN_VALUE), NONE);
        CHECKS.due("2: company(MAX)", x.company(Integer.MAX_VALUE), NONE);
        CHECKS.due("2: none was made", x.isBalanced(1), NONE);
        for (int c = 1; c < 12; c++) {
            CHECKS.due("2: company " + c, x.company(c % 4), c);
            CHECKS.due("2: it is there", x.isBalanced(c), 1);
            CHECKS.due("2: the next is not", x.isBalanced(c + 1), NONE);
        }
        CHECKS.due("2: a thirteenth", x.company(0), NONE);
        CHECKS.due("2: a thirteenth is not there", x.isBalanced(12), NONE);
        x.account(4);
        for (int c = 1; c < 12; c++) {
            x.hold(0, c, 10000);
        }
        CHECKS.due("2: currencies 1 to 3 are there", x.consolidate(), -101);
        x.rate(1, 1, 1);
        CHECKS.due("2: currencies 2 and 3 are there", x.consolidate(), -102);
        x.rate(2, 1, 1);
        CHECKS.due("2: currency 3 is there", x.consolidate(), -103);
        x.rate(3, 1, 1);
        CHECKS.due("2: all have rates", x.consolidate(), 0);
    }

    private static void accounts() {
        ConsolidationDesk x = new ConsolidationDesk();
        CHECKS.due("3: account(0)", x.account(0), NONE);
        CHECKS.due("3: account(5)", x.account(5), NONE);
        CHECKS.due("3: account(-1)", x.account(-1), NONE);
        CHECKS.due("3: account(MIN)", x.account(Integer.MIN_VALUE), NONE);
        CHECKS.due("3: account(MAX)", x.account(Integer.MAX_VALUE), NONE);
        CHECKS.throwsNoSuchElement("3: none was made", () -> x.posted(0, 0, NONE));
        for (int a = 0; a < 12; a++) {
            CHECKS.due("3: account " + a, x.account(a % 3 + 1), a);
            CHECKS.due("3: it is there", x.posted(0, a, NONE), 0);
        }
        CHECKS.due("3: a thirteenth", x.account(1), NONE);
        CHECKS.due("3: a thirteenth, reserve", x.account(4), NONE);
        CHECKS.throwsNoSuchElement("3: a thirteenth is not there", () -> x.posted(0, 12, NONE));
        CHECKS.due("3: a refused reserve is none", x.consolidate(), -200);
    }

    private static void oneReserve() {
        ConsolidationDesk x = new ConsolidationDesk();
        CHECKS.due("3: account(1)", x.account(1), 0);
        CHECKS.due("3: account(4)", x.account(4), 1);
        CHECKS.due("3: a second reserve", x.account(4), NONE);
        CHECKS.due("3: others behind the reserve", x.account(3), 2);
        CHECKS.due("3: a second reserve, later", x.account(4), NONE);
        CHECKS.due("3: others behind the refused one", x.account(2), 3);
        CHECKS.due("3: the first one is the reserve", x.post(0, 1, NONE, 1), false);
        CHECKS.due("3: the later one is not", x.post(0, 3, NONE, 1), true);
    }

    private static void rates() {
        ConsolidationDesk x = new ConsolidationDesk();
        x.company(1);
        x.account(1);
        x.account(2);
        x.account(4);
        x.hold(0, 1, 10000);
        x.post(1, 0, NONE, 1_000_000);
        x.post(1, 1, NONE, -1_000_000);
        int[] wrongCurrencies = {-1, 0, 4, Integer.MIN_VALUE, Integer.MAX_VALUE};
        for (int currency : wrongCurrencies) {
            CHECKS.due("5: rate of currency " + currency, x.rate(currency, 1_000_000, 1_000_000), false);
        }
        int[] wrongRates = {0, -1, 1_000_000_001, Integer.MIN_VALUE, Integer.MAX_VALUE};
        for (int wrong : wrongRates) {
            CHECKS.due("5: closing " + wrong, x.rate(1, wrong, 7), false);
            CHECKS.due("5: average " + wrong, x.rate(1, 7, wrong), false);
        }
        CHECKS.due("5: the refused changed nothing", x.consolidate(), -101);
        CHECKS.due("5: the lowest and highest", x.rate(1, 1, 1_000_000_000), true);
        CHECKS.due("5: consolidate()", x.consolidate(), 0);
        CHECKS.due("5: at the lowest", x.trace(0, 1, 0), 1);
        CHECKS.due("5: at the highest", x.trace(1, 1, 0), -1_000_000_000);
        CHECKS.due("5: a new rate", x.rate(1, 1_000_000_000, 1), true);
        CHECKS.due("5: a refused rate", x.rate(1, 5, 0), false);
        CHECKS.due("5: the report stays", x.trace(0, 1, 0), 1);
        CHECKS.due("5: consolidate()", x.consolidate(), 0);
        CHECKS.due("5: at the new closing", x.trace(0, 1, 0), 1_000_000_000);
        CHECKS.due("5: at the new average", x.trace(1, 1, 0), -1);
    }
}
