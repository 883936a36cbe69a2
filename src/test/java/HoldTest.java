/** Promises 4 (hold), 10 (controlled) and 11 (effective). */
public final class HoldTest extends DeskTest {
    public static void main(String[] args) {
        wrongNumbers();
        noPartOfItself();
        chainsOfFour();
        chainsJoined();
        atMostTheWhole();
        control();
        controlIsTheLeastSet();
        controlThroughTheLongestChain();
        shares();
        sharesOfDiamonds();
        theHeadCanBeHeld();
        CHECKS.end();
    }

    private static ConsolidationDesk deskOf(int companies) {
        return bareDesk(new int[companies - 1]);
    }

    private static void wrongNumbers() {
        ConsolidationDesk x = deskOf(3);
        int[] wrongCompanies = {-1, 3, 12, Integer.MIN_VALUE, Integer.MAX_VALUE};
        for (int wrong : wrongCompanies) {
            CHECKS.due("4: owner " + wrong, x.hold(wrong, 1, 1), false);
            CHECKS.due("4: owned " + wrong, x.hold(0, wrong, 1), false);
            CHECKS.due("10: controlled(" + wrong + ")", x.controlled(wrong), NONE);
            CHECKS.due("11: effective(" + wrong + ")", x.effective(wrong), NONE);
        }
        int[] wrongParts = {-1, 10001, Integer.MIN_VALUE, Integer.MAX_VALUE};
        for (int wrong : wrongParts) {
            CHECKS.due("4: hundredths " + wrong, x.hold(0, 1, wrong), false);
        }
        CHECKS.due("4: nothing was changed", x.effective(1), 0);
        CHECKS.due("4: the whole", x.hold(0, 1, 10000), true);
        CHECKS.due("4: refused over an older one", x.hold(0, 1, 10001), false);
        CHECKS.due("4: the older one stays", x.effective(1), WHOLE);
        CHECKS.due("4: none", x.hold(0, 1, 0), true);
        CHECKS.due("4: none is none", x.effective(1), 0);
        CHECKS.due("4: none again", x.hold(0, 1, 0), true);
    }

    private static void noPartOfItself() {
        ConsolidationDesk x = deskOf(4);
        CHECKS.due("4: of itself", x.hold(1, 1, 1), false);
        CHECKS.due("4: nothing of itself", x.hold(1, 1, 0), true);
        CHECKS.due("4: the head of itself", x.hold(0, 0, 10000), false);
        CHECKS.due("4: 1 of 2", x.hold(1, 2, 1), true);
        CHECKS.due("4: 2 of 1", x.hold(2, 1, 1), false);
        CHECKS.due("4: nothing back is no part", x.hold(2, 1, 0), true);
        CHECKS.due("4: 2 of 3", x.hold(2, 3, 1), true);
        CHECKS.due("4: 3 of 1", x.hold(3, 1, 1), false);
        CHECKS.due("4: the chain is opened", x.hold(1, 2, 0), true);
        CHECKS.due("4: 3 of 1, now", x.hold(3, 1, 1), true);
        CHECKS.due("4: 1 of 2 goes round now", x.hold(1, 2, 1), false);
    }

    private static void chainsOfFour() {
        ConsolidationDesk x = deskOf(7);
        for (int c = 0; c < 4; c++) {
            CHECKS.due("4: holding " + c, x.hold(c, c + 1, 10000), true);
        }
        CHECKS.due("4: a fifth behind", x.hold(4, 5, 1), false);
        CHECKS.due("4: a fifth of nothing", x.hold(4, 5, 0), true);
        CHECKS.due("4: a fifth before", x.hold(5, 0, 1), false);
        CHECKS.due("4: a short way beside", x.hold(3, 5, 1), true);
        CHECKS.due("4: a holding of the chain changes", x.hold(3, 4, 9999), true);
        CHECKS.due("4: effective(4)", x.effective(4), WHOLE / 10000 * 9999);
        CHECKS.due("4: the first goes", x.hold(0, 1, 0), true);
        CHECKS.due("4: the fourth at the end", x.hold(4, 6, 1), true);
        CHECKS.due("4: the first is a fifth now", x.hold(0, 1, 1), false);
        CHECKS.due("4: refused, so no share", x.effective(1), 0);
    }

    private static void chainsJoined() {
        // Counted for any company, also where the head is far away.
        ConsolidationDesk x = deskOf(8);
        x.hold(7, 6, 100);
        x.hold(6, 5, 100);
        x.hold(4, 3, 100);
        x.hold(3, 2, 100);
        CHECKS.due("4: two and one and two", x.hold(5, 4, 100), false);
        CHECKS.due("4: one and one and two", x.hold(6, 4, 100), true);
        CHECKS.due("4: two and one and one", x.hold(5, 3, 100), true);
        CHECKS.due("4: a fifth behind", x.hold(2, 1, 100), false);
        CHECKS.due("4: a fifth before", x.hold(0, 7, 100), false);
    }

    private static void atMostTheWhole() {
        ConsolidationDesk x = deskOf(4);
        CHECKS.due("4: 6000 of 3", x.hold(0, 3, 6000), true);
        CHECKS.due("4: 4001 more", x.hold(1, 3, 4001), false);
        CHECKS.due("4: 4000 more", x.hold(1, 3, 4000), true);
        CHECKS.due("4: 1 more", x.hold(2, 3, 1), false);
        CHECKS.due("4: 4001 in place of 4000", x.hold(1, 3, 4001), false);
        CHECKS.due("4: 3999 in place of 4000", x.hold(1, 3, 3999), true);
        CHECKS.due("4: 1 more now", x.hold(2, 3, 1), true);
        CHECKS.due("4: of another company as much", x.hold(0, 2, 10000), true);
        CHECKS.due("4: the sums of one owner are free", x.hold(0, 1, 10000), true);
    }

    private static void control() {
        ConsolidationDesk x = deskOf(4);
        x.hold(0, 1, 5000);
        CHECKS.due("10: half is not enough", x.controlled(1), 0);
        x.hold(0, 1, 5001);
        CHECKS.due("10: more than half", x.controlled(1), 1);
        x.hold(0, 2, 2501);
        x.hold(1, 2, 2500);
        CHECKS.due("10: together more than half", x.controlled(2), 1);
        CHECKS.due("10: the head", x.controlled(0), 1);
        CHECKS.due("10: nobody's", x.controlled(3), 0);
        x.hold(0, 1, 5000);
        CHECKS.due("10: 1 is lost", x.controlled(1), 0);
        CHECKS.due("10: and 2 with it", x.controlled(2), 0);
        CHECKS.due("11: shares go on without control", x.effective(2), 3_751_000_000_000_000L);
    }

    private static void controlIsTheLeastSet() {
        ConsolidationDesk x = deskOf(4);
        x.hold(2, 1, 10000);
        x.hold(3, 2, 10000);
        CHECKS.due("10: held whole by one without control", x.controlled(1), 0);
        x.hold(0, 3, 5000);
        CHECKS.due("10: still", x.controlled(1), 0);
        x.hold(0, 3, 5001);
        CHECKS.due("10: 3", x.controlled(3), 1);
        CHECKS.due("10: 2, of a higher number's", x.controlled(2), 1);
        CHECKS.due("10: 1, of a higher number's", x.controlled(1), 1);
    }

    private static void controlThroughTheLongestChain() {
        ConsolidationDesk x = deskOf(6);
        x.hold(0, 5, 6000);
        x.hold(5, 4, 6000);
        x.hold(4, 3, 6000);
        x.hold(3, 2, 6000);
        for (int c = 2; c <= 5; c++) {
            CHECKS.due("10: a chain downwards, " + c, x.controlled(c), 1);
        }
        CHECKS.due("10: not in the chain", x.controlled(1), 0);
        CHECKS.due("11: six tenths four times", x.effective(2), 1_296_000_000_000_000L);
    }

    private static void shares() {
        ConsolidationDesk x = deskOf(6);
        CHECKS.due("11: nobody's", x.effective(1), 0);
        x.hold(0, 1, 1);
        x.hold(1, 2, 1);
        x.hold(2, 3, 1);
        x.hold(3, 4, 1);
        CHECKS.due("11: the head", x.effective(0), WHOLE);
        CHECKS.due("11: one holding", x.effective(1), 1_000_000_000_000L);
        CHECKS.due("11: two", x.effective(2), 100_000_000L);
        CHECKS.due("11: three", x.effective(3), 10_000L);
        CHECKS.due("11: four", x.effective(4), 1L);
        x.hold(5, 4, 9999);
        CHECKS.due("11: not of the head's", x.effective(4), 1L);
        x.hold(0, 1, 9999);
        x.hold(1, 2, 9999);
        x.hold(2, 3, 9999);
        x.hold(5, 4, 0);
        x.hold(3, 4, 9999);
        CHECKS.due("11: 9999 four times", x.effective(4), 9_996_000_599_960_001L);
    }

    private static void sharesOfDiamonds() {
        ConsolidationDesk x = deskOf(5);
        x.hold(0, 1, 8000);
        x.hold(0, 2, 7000);
        x.hold(1, 3, 3000);
        x.hold(2, 3, 2000);
        x.hold(0, 3, 1000);
        x.hold(1, 2, 500);
        CHECKS.due("11: 2, two ways", x.effective(2), 7_400_000_000_000_000L);
        CHECKS.due("11: 3, four ways", x.effective(3), 4_880_000_000_000_000L);
        x.hold(3, 4, 9000);
        CHECKS.due("11: 4, behind them", x.effective(4), 4_392_000_000_000_000L);
        CHECKS.due("10: 3, six tenths together", x.controlled(3), 1);
        x.hold(1, 2, 0);
        CHECKS.due("11: a way less", x.effective(4), 4_320_000_000_000_000L);
    }

    private static void theHeadCanBeHeld() {
        ConsolidationDesk x = deskOf(7);
        CHECKS.due("4: 1 of the head", x.hold(1, 0, 10000), true);
        CHECKS.due("10: the owner of the head", x.controlled(1), 0);
        CHECKS.due("10: the head", x.controlled(0), 1);
        CHECKS.due("11: the owner of the head", x.effective(1), 0);
        CHECKS.due("11: the head", x.effective(0), WHOLE);
        CHECKS.due("4: not back", x.hold(0, 1, 1), false);
        x.hold(0, 2, 5001);
        x.hold(2, 3, 5001);
        x.hold(3, 4, 5001);
        CHECKS.due("4: a chain of five through the head", x.hold(4, 5, 5001), false);
        CHECKS.due("10: 4", x.controlled(4), 1);
    }
}
