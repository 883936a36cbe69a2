/** Promises 16 (openItems) and 17 (openItem). */
public final class OpenItemTest extends DeskTest {
    public static void main(String[] args) {
        beforeAny();
        theOrder();
        whatIsLeft();
        wrongNumbers();
        onlyPairsOfTheControlled();
        afterTranslation();
        anEmptiedList();
        CHECKS.end();
    }

    /** Companies of currency 0, all held whole by the head; two balance accounts, a result, a reserve. */
    private static ConsolidationDesk deskOf(int companies) {
        ConsolidationDesk x = new ConsolidationDesk();
        for (int c = 1; c < companies; c++) {
            x.company(0);
            x.hold(0, c, 10000);
        }
        x.account(1);
        x.account(4);
        x.account(1);
        x.account(2);
        return x;
    }

    /** Posts with the partner, and the other side of it without one. */
    private static void postWith(ConsolidationDesk x, int company, int account, int partner, long cents) {
        post(x, company, account, partner, account, cents);
    }

    private static void item(ConsolidationDesk x, int i, int company, int partner, int account, long left) {
        CHECKS.due("17: company of item " + i, x.openItem(i, 0), company);
        CHECKS.due("17: partner of item " + i, x.openItem(i, 1), partner);
        CHECKS.due("17: account of item " + i, x.openItem(i, 2), account);
        CHECKS.due("17: amount of item " + i, x.openItem(i, 3), left);
    }

    private static void beforeAny() {
        ConsolidationDesk x = deskOf(2);
        postWith(x, 0, 0, 1, 5);
        CHECKS.due("16: before any", x.openItems(), 0);
        CHECKS.throwsNoSuchElement("17: before any", () -> x.openItem(0, 0));
        x.consolidate();
        CHECKS.due("16: behind it", x.openItems(), 1);
        item(x, 0, 0, 1, 0, 5);
    }

    private static void theOrder() {
        ConsolidationDesk x = deskOf(12);
        postWith(x, 11, 3, 10, 8);
        postWith(x, 11, 0, 10, 7);
        postWith(x, 2, 0, 1, 4);
        postWith(x, 2, 0, 11, 6);
        postWith(x, 2, 2, 0, 3);
        postWith(x, 2, 3, 1, 5);
        postWith(x, 0, 3, 2, 2);
        postWith(x, 0, 2, 2, -1);
        x.consolidate();
        CHECKS.due("16: openItems()", x.openItems(), 7);
        item(x, 0, 0, 2, 3, 2);
        item(x, 1, 2, 0, 2, 2);
        item(x, 2, 2, 1, 0, 4);
        item(x, 3, 2, 1, 3, 5);
        item(x, 4, 2, 11, 0, 6);
        item(x, 5, 11, 10, 0, 7);
        item(x, 6, 11, 10, 3, 8);
    }

    private static void whatIsLeft() {
        ConsolidationDesk x = deskOf(3);
        postWith(x, 0, 0, 1, 100);
        postWith(x, 1, 0, 0, -100);
        postWith(x, 0, 2, 1, -70);
        postWith(x, 1, 2, 0, 100);
        postWith(x, 0, 3, 1, -10);
        postWith(x, 1, 3, 0, -20);
        postWith(x, 1, 0, 2, 15);
        postWith(x, 2, 0, 1, -10);
        x.consolidate();
        CHECKS.due("16: openItems()", x.openItems(), 4);
        item(x, 0, 0, 1, 3, -10);
        item(x, 1, 1, 0, 2, 30);
        item(x, 2, 1, 0, 3, -20);
        item(x, 3, 1, 2, 0, 5);
        CHECKS.due("14: and so it is for the companies", x.trace(2, 1, 1), -70);
        CHECKS.due("14: and the head", x.trace(2, 0, 1), 70);
    }

    private static void wrongNumbers() {
        ConsolidationDesk x = deskOf(2);
        postWith(x, 0, 0, 1, 5);
        postWith(x, 1, 0, 0, 5);
        x.consolidate();
        int[] wrongItems = {-1, 2, 3, Integer.MIN_VALUE, Integer.MAX_VALUE};
        for (int wrong : wrongItems) {
            CHECKS.throwsNoSuchElement("17: item " + wrong, () -> x.openItem(wrong, 0));
        }
        int[] wrongWhats = {-1, 4, Integer.MIN_VALUE, Integer.MAX_VALUE};
        for (int wrong : wrongWhats) {
            CHECKS.throwsNoSuchElement("17: what " + wrong, () -> x.openItem(0, wrong));
        }
        item(x, 1, 1, 0, 0, 5);
    }

    private static void onlyPairsOfTheControlled() {
        ConsolidationDesk x = deskOf(3);
        x.hold(0, 2, 5000);
        postWith(x, 0, 0, 2, 5);
        postWith(x, 2, 0, 1, 6);
        postWith(x, 1, 0, 0, 7);
        x.consolidate();
        CHECKS.due("16: openItems()", x.openItems(), 1);
        item(x, 0, 1, 0, 0, 7);
        x.hold(0, 2, 5001);
        CHECKS.due("16: not before it is asked for", x.openItems(), 1);
        x.consolidate();
        CHECKS.due("16: with all three", x.openItems(), 3);
        item(x, 0, 0, 2, 0, 5);
        item(x, 1, 1, 0, 0, 7);
        item(x, 2, 2, 1, 0, 6);
    }

    private static void afterTranslation() {
        ConsolidationDesk x = deskOf(2);
        x.company(1);
        x.hold(0, 2, 10000);
        x.rate(1, 400_000, 2_000_000);
        postWith(x, 2, 0, 0, 1);
        postWith(x, 2, 3, 0, 50);
        postWith(x, 0, 3, 2, -100);
        x.consolidate();
        CHECKS.due("16: rounded to 0, and taken out whole", x.openItems(), 0);
        x.rate(1, 500_000, 2_100_000);
        x.consolidate();
        CHECKS.due("16: rounded to 1, and some left", x.openItems(), 2);
        item(x, 0, 2, 0, 0, 1);
        item(x, 1, 2, 0, 3, 5);
        postWith(x, 2, 0, 0, 1);
        CHECKS.due("17: the report stays", x.openItem(0, 3), 1);
    }

    private static void anEmptiedList() {
        ConsolidationDesk x = deskOf(2);
        postWith(x, 0, 0, 1, 5);
        x.consolidate();
        postWith(x, 1, 0, 0, -5);
        x.consolidate();
        CHECKS.due("16: nothing is left", x.openItems(), 0);
        CHECKS.throwsNoSuchElement("17: nothing is left", () -> x.openItem(0, 0));
    }
}
