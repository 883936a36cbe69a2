/** Promises 6 (post), 7 (historic), 8 (posted) and 9 (isBalanced). */
public final class BookTest extends DeskTest {
    public static void main(String[] args) {
        postAndPosted();
        wrongNumbers();
        whatAccountsTake();
        greatSums();
        balance();
        historicAmounts();
        wrongHistoricAmounts();
        historicAmountsInTheGroupsCurrency();
        CHECKS.end();
    }

    private static void postAndPosted() {
        ConsolidationDesk x = desk(1, 0);
        CHECKS.due("8: nothing was posted", x.posted(1, BALANCE, NONE), 0);
        CHECKS.due("6: a debit", x.post(1, BALANCE, NONE, 70), true);
        CHECKS.due("6: a credit more", x.post(1, BALANCE, NONE, -100), true);
        CHECKS.due("6: with a partner", x.post(1, BALANCE, 2, 5), true);
        CHECKS.due("6: nothing", x.post(1, BALANCE, 2, 0), true);
        CHECKS.due("6: another account", x.post(1, RESULT, 2, 11), true);
        CHECKS.due("6: the other way round", x.post(2, BALANCE, 1, 13), true);
        CHECKS.due("8: a sum", x.posted(1, BALANCE, NONE), -30);
        CHECKS.due("8: of a partner", x.posted(1, BALANCE, 2), 5);
        CHECKS.due("8: of another partner", x.posted(1, BALANCE, 0), 0);
        CHECKS.due("8: of another account", x.posted(1, RESULT, 2), 11);
        CHECKS.due("8: of another company", x.posted(2, BALANCE, 1), 13);
        CHECKS.due("8: of another company, without partner", x.posted(2, BALANCE, NONE), 0);
        CHECKS.due("8: of the reserve", x.posted(1, RESERVE, NONE), 0);
        CHECKS.due("8: of the reserve, with a partner", x.posted(1, RESERVE, 0), 0);
        CHECKS.due("8: of equity, with a partner", x.posted(1, EQUITY, 0), 0);
    }

    private static void wrongNumbers() {
        ConsolidationDesk x = desk(1, 0);
        int[] wrong = {-2, 12, 13, Integer.MIN_VALUE, Integer.MAX_VALUE};
        for (int w : wrong) {
            refused(x, w, BALANCE, NONE);
            refused(x, 0, w, NONE);
            refused(x, 0, BALANCE, w);
        }
        refused(x, NONE, BALANCE, NONE);
        refused(x, 3, BALANCE, NONE);
        refused(x, 0, NONE, NONE);
        refused(x, 0, 4, NONE);
        refused(x, 0, BALANCE, 3);
        refused(x, 0, BALANCE, 0);
        refused(x, 1, BALANCE, 1);
        x.company(0);
        CHECKS.due("6: a company that came later", x.post(3, BALANCE, NONE, 1), true);
        CHECKS.due("6: a partner that came later", x.post(0, BALANCE, 3, 1), true);
        CHECKS.due("6: an account that is not there yet", x.post(0, 4, NONE, 1), false);
        x.account(1);
        CHECKS.due("6: an account that came later", x.post(0, 4, NONE, 1), true);
    }

    private static void refused(ConsolidationDesk x, int company, int account, int partner) {
        String numbers = "(" + company + ", " + account + ", " + partner + ")";
        CHECKS.due("6: post" + numbers, x.post(company, account, partner, 1), false);
        CHECKS.throwsNoSuchElement("8: posted" + numbers, () -> x.posted(company, account, partner));
        for (int c = 0; c < 3; c++) {
            CHECKS.due("6: post" + numbers + " changed nothing", x.isBalanced(c), 1);
        }
    }

    private static void whatAccountsTake() {
        ConsolidationDesk x = desk(1, 0);
        CHECKS.due("6: balance with a partner", x.post(0, BALANCE, 1, 1), true);
        CHECKS.due("6: result without", x.post(0, RESULT, NONE, 1), true);
        CHECKS.due("6: equity without", x.post(0, EQUITY, NONE, 1), true);
        CHECKS.due("6: equity with a partner", x.post(0, EQUITY, 1, 1), false);
        CHECKS.due("6: equity with a partner, nothing", x.post(0, EQUITY, 1, 0), false);
        CHECKS.due("6: reserve", x.post(0, RESERVE, NONE, 1), false);
        CHECKS.due("6: reserve with a partner", x.post(0, RESERVE, 1, 1), false);
        CHECKS.due("6: reserve, nothing", x.post(0, RESERVE, NONE, 0), false);
        CHECKS.due("8: equity", x.posted(0, EQUITY, NONE), 1);
        CHECKS.due("8: equity with a partner", x.posted(0, EQUITY, 1), 0);
        CHECKS.due("8: reserve", x.posted(0, RESERVE, NONE), 0);
    }

    private static void greatSums() {
        ConsolidationDesk x = desk(1, 0);
        CHECKS.due("6: too great", x.post(0, BALANCE, NONE, LIMIT + 1), false);
        CHECKS.due("6: too great a credit", x.post(0, BALANCE, NONE, -LIMIT - 1), false);
        CHECKS.due("8: nothing was changed", x.posted(0, BALANCE, NONE), 0);
        CHECKS.due("6: the greatest", x.post(0, BALANCE, NONE, LIMIT), true);
        CHECKS.due("6: one more", x.post(0, BALANCE, NONE, 1), false);
        CHECKS.due("6: would wrap around", x.post(0, BALANCE, NONE, Long.MAX_VALUE), false);
        CHECKS.due("6: the least number", x.post(0, BALANCE, NONE, Long.MIN_VALUE), false);
        CHECKS.due("8: the greatest", x.posted(0, BALANCE, NONE), LIMIT);
        CHECKS.due("6: only the sum counts", x.post(0, BALANCE, NONE, -2 * LIMIT), true);
        CHECKS.due("8: the greatest credit", x.posted(0, BALANCE, NONE), -LIMIT);
        CHECKS.due("6: one credit more", x.post(0, BALANCE, NONE, -1), false);
        CHECKS.due("6: wraps around below", x.post(0, BALANCE, NONE, Long.MIN_VALUE), false);
        CHECKS.due("6: the greatest number", x.post(0, BALANCE, NONE, Long.MAX_VALUE), false);
        CHECKS.due("6: beyond the other end", x.post(0, BALANCE, NONE, 2 * LIMIT + 1), false);
        CHECKS.due("8: it stays", x.posted(0, BALANCE, NONE), -LIMIT);
        CHECKS.due("6: each sum for itself", x.post(0, BALANCE, 1, -LIMIT), true);
    }

    private static void balance() {
        ConsolidationDesk x = desk(1, 0);
        int[] wrong = {-1, 3, 12, Integer.MIN_VALUE, Integer.MAX_VALUE};
        for (int w : wrong) {
            CHECKS.due("9: isBalanced(" + w + ")", x.isBalanced(w), NONE);
        }
        CHECKS.due("9: an empty book", x.isBalanced(1), 1);
        x.post(1, BALANCE, NONE, 10);
        CHECKS.due("9: a debit", x.isBalanced(1), 0);
        CHECKS.due("9: another book", x.isBalanced(0), 1);
        x.post(1, BALANCE, 2, -3);
        CHECKS.due("9: some of it with a partner", x.isBalanced(1), 0);
        x.post(1, RESULT, 0, -3);
        x.post(1, EQUITY, NONE, -5);
        CHECKS.due("9: too much", x.isBalanced(1), 0);
        x.post(1, EQUITY, NONE, 1);
        CHECKS.due("9: all together", x.isBalanced(1), 1);
        x.historic(1, EQUITY, 77);
        CHECKS.due("9: historic amounts are not in the book", x.isBalanced(1), 1);
    }

    private static void historicAmounts() {
        ConsolidationDesk x = desk(1, 0);
        x.hold(0, 1, 10000);
        x.rate(1, 2_000_000, 3_000_000);
        x.post(1, BALANCE, NONE, 100);
        x.post(1, EQUITY, NONE, -100);
        x.consolidate();
        CHECKS.due("7: none was told", x.trace(EQUITY, 1, 0), 0);
        CHECKS.due("7: historic", x.historic(1, EQUITY, -150), true);
        CHECKS.due("7: the report stays", x.trace(EQUITY, 1, 0), 0);
        x.consolidate();
        CHECKS.due("7: it was told", x.trace(EQUITY, 1, 0), -150);
        CHECKS.due("7: the rest is in the reserve", x.trace(RESERVE, 1, 0), -50);
        CHECKS.due("7: another one", x.historic(1, EQUITY, 7), true);
        x.consolidate();
        CHECKS.due("7: it becomes so much, not so much more", x.trace(EQUITY, 1, 0), 7);
        CHECKS.due("7: the greatest", x.historic(1, EQUITY, LIMIT), true);
        CHECKS.due("7: the greatest credit", x.historic(1, EQUITY, -LIMIT), true);
        x.consolidate();
        CHECKS.due("7: the greatest credit", x.trace(EQUITY, 1, 0), -LIMIT);
        CHECKS.due("8: the book is as it was", x.posted(1, EQUITY, NONE), -100);
        x.account(3);
        x.historic(1, 4, 9);
        x.consolidate();
        CHECKS.due("7: each account for itself", x.trace(EQUITY, 1, 0), -LIMIT);
        CHECKS.due("7: without anything posted", x.trace(4, 1, 0), 9);
    }

    private static void wrongHistoricAmounts() {
        ConsolidationDesk x = desk(1, 0);
        x.hold(0, 1, 10000);
        x.rate(1, 1_000_000, 1_000_000);
        x.historic(1, EQUITY, 5);
        int[] wrong = {-1, 4, 12, Integer.MIN_VALUE, Integer.MAX_VALUE};
        for (int w : wrong) {
            CHECKS.due("7: company " + w, x.historic(w, EQUITY, 1), false);
            CHECKS.due("7: account " + w, x.historic(1, w, 1), false);
        }
        CHECKS.due("7: a company that is not there yet", x.historic(3, EQUITY, 1), false);
        CHECKS.due("7: balance", x.historic(1, BALANCE, 1), false);
        CHECKS.due("7: result", x.historic(1, RESULT, 1), false);
        CHECKS.due("7: reserve", x.historic(1, RESERVE, 1), false);
        CHECKS.due("7: too great", x.historic(1, EQUITY, LIMIT + 1), false);
        CHECKS.due("7: too great a credit", x.historic(1, EQUITY, -LIMIT - 1), false);
        CHECKS.due("7: the greatest number", x.historic(1, EQUITY, Long.MAX_VALUE), false);
        CHECKS.due("7: the least number", x.historic(1, EQUITY, Long.MIN_VALUE), false);
        x.consolidate();
        CHECKS.due("7: the refused changed nothing", x.trace(EQUITY, 1, 0), 5);
        CHECKS.due("7: nor elsewhere", x.trace(RESERVE, 1, 0), -5);
    }

    private static void historicAmountsInTheGroupsCurrency() {
        ConsolidationDesk x = desk(1, 0);
        x.hold(0, 2, 10000);
        for (int c = 0; c <= 2; c += 2) {
            x.post(c, BALANCE, NONE, 40 + c);
            x.post(c, EQUITY, NONE, -40 - c);
            CHECKS.due("7: may be told", x.historic(c, EQUITY, 999), true);
        }
        x.consolidate();
        CHECKS.due("7: the head's is the sum itself", x.trace(EQUITY, 0, 0), -40);
        CHECKS.due("7: another's too", x.trace(EQUITY, 2, 0), -42);
        CHECKS.due("7: nothing for the reserve", x.group(RESERVE), 0);
    }
}
