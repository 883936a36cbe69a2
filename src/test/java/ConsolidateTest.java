/** Promises 12 (consolidate), 13 (group), 14 (trace) and 15 (minority). */
public final class ConsolidateTest extends DeskTest {
    public static void main(String[] args) {
        theOrderOfHindrances();
        onlyTheControlledHinder();
        theLeastCurrency();
        aRefusedOneLeavesTheOlder();
        wrongNumbers();
        madeLater();
        noLongerControlled();
        roundingOfRates();
        eachSumIsRoundedAlone();
        eliminationOfAPair();
        eliminationOfOneCent();
        partnersOutsideTheGroup();
        roundingOfTheOutsidersPart();
        roundingOfASmallShare();
        outsidersBeforeElimination();
        negativeNetAssets();
        greatAmounts();
        CHECKS.end();
    }

    private static void theOrderOfHindrances() {
        ConsolidationDesk x = new ConsolidationDesk();
        for (int c = 1; c < 12; c++) {
            x.company(3);
            x.hold(0, c, 10000);
        }
        x.account(1);
        for (int c = 0; c < 12; c++) {
            x.post(c, 0, NONE, 1);
        }
        for (int c = 0; c < 12; c++) {
            CHECKS.due("12: the least unbalanced, " + c, x.consolidate(), -1 - c);
            x.post(c, 0, (c + 1) % 12, -1);
        }
        CHECKS.due("12: no rates", x.consolidate(), -103);
        x.rate(3, 1_000_000, 1_000_000);
        CHECKS.due("12: no reserve", x.consolidate(), -200);
        CHECKS.throwsNoSuchElement("13: before any", () -> x.group(0));
        CHECKS.throwsNoSuchElement("14: before any", () -> x.trace(0, 0, 0));
        CHECKS.throwsNoSuchElement("15: before any", () -> x.minority(0));
        x.account(4);
        CHECKS.due("12: all is there", x.consolidate(), 0);
        CHECKS.due("13: group(0)", x.group(0), 0);
    }

    private static void onlyTheControlledHinder() {
        ConsolidationDesk x = desk(1, 2);
        x.post(1, BALANCE, NONE, 1);
        x.hold(0, 1, 5000);
        CHECKS.due("12: not controlled, so no matter", x.consolidate(), 0);
        x.hold(0, 1, 5001);
        CHECKS.due("12: not balanced", x.consolidate(), -2);
        x.post(1, BALANCE, NONE, -1);
        CHECKS.due("12: without rates", x.consolidate(), -101);
        x.rate(1, 1, 1);
        CHECKS.due("12: 2 is not controlled", x.consolidate(), 0);
    }

    private static void theLeastCurrency() {
        ConsolidationDesk x = desk(3, 2, 1);
        x.hold(0, 1, 10000);
        x.hold(0, 2, 10000);
        CHECKS.due("12: 3 and 2", x.consolidate(), -102);
        x.rate(1, 1, 1);
        CHECKS.due("12: the rates of another", x.consolidate(), -102);
        x.rate(2, 1, 1);
        CHECKS.due("12: 3", x.consolidate(), -103);
        x.rate(3, 1, 1);
        CHECKS.due("12: none", x.consolidate(), 0);
    }

    private static void aRefusedOneLeavesTheOlder() {
        ConsolidationDesk x = desk(0);
        x.hold(0, 1, 8000);
        x.post(0, BALANCE, 1, 10);
        x.post(0, RESULT, NONE, -10);
        x.post(1, BALANCE, NONE, 50);
        x.post(1, EQUITY, NONE, -50);
        CHECKS.due("12: consolidate()", x.consolidate(), 0);
        x.post(1, BALANCE, 0, -4);
        CHECKS.due("12: not balanced", x.consolidate(), -2);
        CHECKS.due("13: as before", x.group(BALANCE), 60);
        CHECKS.due("14: as before", x.trace(BALANCE, 1, 2), 50);
        CHECKS.due("15: as before", x.minority(1), -10);
        CHECKS.due("16: as before", x.openItems(), 1);
        CHECKS.due("17: as before", x.openItem(0, 3), 10);
        x.post(1, RESULT, NONE, 4);
        CHECKS.due("13: not before it is asked for", x.group(BALANCE), 60);
        CHECKS.due("12: consolidate()", x.consolidate(), 0);
        CHECKS.due("13: anew", x.group(BALANCE), 56);
        CHECKS.due("14: anew", x.trace(BALANCE, 1, 2), 50);
        CHECKS.due("15: anew", x.minority(1), -9);
        CHECKS.due("17: anew", x.openItem(0, 3), 6);
        CHECKS.due("12: twice the same", x.consolidate(), 0);
        CHECKS.due("13: twice the same", x.group(BALANCE), 56);
        CHECKS.due("14: twice the same", x.trace(RESERVE, 1, 2), 9);
        CHECKS.due("16: twice the same", x.openItems(), 1);
    }

    private static void wrongNumbers() {
        ConsolidationDesk x = desk(0);
        x.consolidate();
        int[] wrong = {-1, 4, 12, Integer.MIN_VALUE, Integer.MAX_VALUE};
        for (int w : wrong) {
            CHECKS.throwsNoSuchElement("13: group(" + w + ")", () -> x.group(w));
            CHECKS.throwsNoSuchElement("14: account " + w, () -> x.trace(w, 0, 0));
            CHECKS.throwsNoSuchElement("14: company " + w, () -> x.trace(0, w, 0));
            CHECKS.throwsNoSuchElement("14: step " + w, () -> x.trace(0, 0, w));
            CHECKS.throwsNoSuchElement("15: minority(" + w + ")", () -> x.minority(w));
        }
        CHECKS.throwsNoSuchElement("14: company 2", () -> x.trace(0, 2, 0));
        CHECKS.throwsNoSuchElement("14: step 3", () -> x.trace(0, 0, 3));
        CHECKS.throwsNoSuchElement("15: minority(2)", () -> x.minority(2));
        for (int step = 0; step < 3; step++) {
            CHECKS.due("14: step " + step, x.trace(3, 1, step), 0);
        }
    }

    private static void madeLater() {
        ConsolidationDesk x = desk();
        x.post(0, BALANCE, NONE, 5);
        x.post(0, EQUITY, NONE, -5);
        x.consolidate();
        CHECKS.throwsNoSuchElement("13: not made yet", () -> x.group(4));
        CHECKS.throwsNoSuchElement("15: not made yet", () -> x.minority(1));
        x.account(1);
        x.company(0);
        x.hold(0, 1, 6000);
        x.post(0, 4, NONE, 7);
        x.post(0, BALANCE, NONE, -7);
        x.post(1, 4, 0, 10);
        x.post(1, BALANCE, NONE, -10);
        CHECKS.due("13: an account made later", x.group(4), 0);
        CHECKS.due("14: an account made later", x.trace(4, 0, 0), 0);
        CHECKS.due("14: a company made later", x.trace(0, 1, 2), 0);
        CHECKS.due("15: a company made later", x.minority(1), 0);
        CHECKS.due("16: nothing new", x.openItems(), 0);
        CHECKS.due("12: consolidate()", x.consolidate(), 0);
        CHECKS.due("13: now it is there", x.group(4), 17);
        CHECKS.due("14: now it is there", x.trace(0, 1, 2), -10);
        CHECKS.due("16: now it is there", x.openItems(), 1);
    }

    private static void noLongerControlled() {
        ConsolidationDesk x = desk(0);
        x.hold(0, 1, 6000);
        x.post(1, BALANCE, 0, 100);
        x.post(1, EQUITY, NONE, -100);
        x.consolidate();
        CHECKS.due("13: controlled", x.group(BALANCE), 100);
        CHECKS.due("15: controlled", x.minority(1), -40);
        x.hold(0, 1, 4000);
        CHECKS.due("13: the report stays", x.group(BALANCE), 100);
        CHECKS.due("15: the report stays", x.minority(1), -40);
        CHECKS.due("17: the report stays", x.openItem(0, 3), 100);
        x.consolidate();
        CHECKS.due("13: not controlled", x.group(BALANCE), 0);
        CHECKS.due("14: not controlled, step 0", x.trace(BALANCE, 1, 0), 0);
        CHECKS.due("14: not controlled, step 2", x.trace(RESERVE, 1, 2), 0);
        CHECKS.due("15: not controlled", x.minority(1), 0);
        CHECKS.due("16: not controlled", x.openItems(), 0);
    }

    private static void roundingOfRates() {
        ConsolidationDesk x = desk(1);
        x.hold(0, 1, 10000);
        x.rate(1, 500_000, 499_999);
        x.post(1, BALANCE, NONE, 3);
        x.post(1, RESULT, NONE, -3);
        x.consolidate();
        CHECKS.due("12: a half, away from 0", x.trace(BALANCE, 1, 0), 2);
        CHECKS.due("12: less than a half", x.trace(RESULT, 1, 0), -1);
        CHECKS.due("12: what is wanting", x.trace(RESERVE, 1, 0), -1);
        x.post(1, BALANCE, NONE, -6);
        x.post(1, RESULT, NONE, 6);
        x.consolidate();
        CHECKS.due("12: a half below 0", x.trace(BALANCE, 1, 0), -2);
        CHECKS.due("12: less than a half below 0", x.trace(RESULT, 1, 0), 1);
        x.rate(1, 1_250_000, 999_999_999);
        x.consolidate();
        CHECKS.due("12: 3.75", x.trace(BALANCE, 1, 0), -4);
        CHECKS.due("12: 2999.999997", x.trace(RESULT, 1, 0), 3000);
        CHECKS.due("12: what is wanting", x.trace(RESERVE, 1, 0), -2996);
    }

    private static void eachSumIsRoundedAlone() {
        ConsolidationDesk x = desk(1, 0);
        x.hold(0, 1, 10000);
        x.rate(1, 500_000, 500_000);
        x.post(1, BALANCE, NONE, 1);
        x.post(1, BALANCE, 0, 1);
        x.post(1, BALANCE, 2, 1);
        x.post(1, RESULT, 2, -3);
        x.consolidate();
        CHECKS.due("12: three halves", x.trace(BALANCE, 1, 0), 3);
        CHECKS.due("12: one and a half", x.trace(RESULT, 1, 0), -2);
        CHECKS.due("12: what is wanting", x.trace(RESERVE, 1, 0), -1);
        CHECKS.due("13: group(BALANCE)", x.group(BALANCE), 3);
        CHECKS.due("13: group(RESERVE)", x.group(RESERVE), -1);
    }

    private static void eliminationOfAPair() {
        ConsolidationDesk x = desk(0);
        x.hold(0, 1, 10000);
        x.post(0, BALANCE, 1, 100);
        x.post(0, BALANCE, NONE, -100);
        x.post(1, BALANCE, 0, -30);
        x.post(1, RESULT, 0, 30);
        x.consolidate();
        CHECKS.due("14: the head, translated", x.trace(BALANCE, 0, 0), 0);
        CHECKS.due("14: the head, less 30", x.trace(BALANCE, 0, 1), -30);
        CHECKS.due("14: the child, translated", x.trace(BALANCE, 1, 0), -30);
        CHECKS.due("14: the child, nothing left", x.trace(BALANCE, 1, 1), 0);
        CHECKS.due("14: another account is not the same", x.trace(RESULT, 1, 2), 30);
        CHECKS.due("14: the reserve is as it was", x.trace(RESERVE, 1, 1), 0);
        CHECKS.due("13: group(BALANCE)", x.group(BALANCE), -30);
        x.post(1, BALANCE, 0, 60);
        x.post(1, RESULT, 0, -60);
        x.consolidate();
        CHECKS.due("14: of one sign, the head", x.trace(BALANCE, 0, 1), 0);
        CHECKS.due("14: of one sign, the child", x.trace(BALANCE, 1, 1), 30);
    }

    private static void eliminationOfOneCent() {
        for (int sign = -1; sign <= 1; sign += 2) {
            ConsolidationDesk x = desk(0);
            x.hold(0, 1, 10000);
            x.post(0, BALANCE, 1, sign);
            x.post(0, RESULT, NONE, -sign);
            x.post(1, BALANCE, 0, -sign);
            x.post(1, RESULT, NONE, sign);
            x.consolidate();
            CHECKS.due("14: a cent of the head", x.trace(BALANCE, 0, 1), 0);
            CHECKS.due("14: a cent of the child", x.trace(BALANCE, 1, 1), 0);
            CHECKS.due("14: no partner, so it stays", x.trace(RESULT, 1, 1), sign);
        }
    }

    private static void partnersOutsideTheGroup() {
        ConsolidationDesk x = desk(0, 0);
        x.hold(0, 1, 10000);
        x.hold(0, 2, 5000);
        x.post(0, BALANCE, 2, 100);
        x.post(0, RESULT, NONE, -100);
        x.post(2, BALANCE, 0, -100);
        x.post(2, RESULT, NONE, 100);
        x.consolidate();
        CHECKS.due("14: nothing to take out against", x.trace(BALANCE, 0, 1), 100);
        CHECKS.due("13: with all partners", x.group(BALANCE), 100);
        CHECKS.due("16: no open item", x.openItems(), 0);
        x.hold(1, 2, 1);
        x.consolidate();
        CHECKS.due("14: now there is", x.trace(BALANCE, 0, 1), 0);
        CHECKS.due("13: now there is", x.group(BALANCE), 0);
    }

    private static void roundingOfTheOutsidersPart() {
        ConsolidationDesk x = desk(0);
        x.hold(0, 1, 7500);
        int[] assets = {1, 2, 3, 4, 6};
        int[] parts = {0, 1, 1, 1, 2};
        for (int i = 0; i < assets.length; i++) {
            x.post(1, BALANCE, NONE, assets[i]);
            x.post(1, EQUITY, NONE, -assets[i]);
            x.consolidate();
            CHECKS.due("15: a quarter of " + assets[i], x.minority(1), -parts[i]);
            CHECKS.due("14: added to the reserve", x.trace(RESERVE, 1, 2), parts[i]);
            CHECKS.due("14: not before", x.trace(RESERVE, 1, 1), 0);
            CHECKS.due("13: group(RESERVE)", x.group(RESERVE), parts[i]);
            x.post(1, BALANCE, NONE, -2 * assets[i]);
            x.post(1, EQUITY, NONE, 2 * assets[i]);
            x.consolidate();
            CHECKS.due("15: a quarter of -" + assets[i], x.minority(1), parts[i]);
            x.post(1, BALANCE, NONE, assets[i]);
            x.post(1, EQUITY, NONE, -assets[i]);
        }
        CHECKS.due("15: the head's", x.minority(0), 0);
    }

    private static void roundingOfASmallShare() {
        ConsolidationDesk x = desk(0, 0, 0, 0);
        for (int c = 0; c < 4; c++) {
            x.hold(c, c + 1, 5001);
        }
        // Times 9374499849979999 parts: 25770.500087..; the last digits make it more than a half.
        x.post(4, BALANCE, NONE, 27490);
        x.post(4, EQUITY, NONE, -27490);
        x.consolidate();
        CHECKS.due("15: hardly more than a half", x.minority(4), -25771);
        x.post(4, BALANCE, NONE, -1);
        x.post(4, EQUITY, NONE, 1);
        x.consolidate();
        CHECKS.due("15: 25769.562..", x.minority(4), -25770);
    }

    private static void outsidersBeforeElimination() {
        ConsolidationDesk x = desk(0, 0);
        x.hold(0, 1, 6000);
        x.hold(1, 2, 9000);
        x.account(1);
        x.post(1, BALANCE, 0, 1000);
        x.post(1, 4, NONE, 500);
        x.post(1, RESULT, NONE, -700);
        x.post(1, EQUITY, NONE, -800);
        x.post(0, BALANCE, 1, -1000);
        x.post(0, RESULT, NONE, 1000);
        x.post(2, BALANCE, NONE, 10000);
        x.post(2, RESULT, NONE, -10000);
        x.consolidate();
        CHECKS.due("14: taken out", x.trace(BALANCE, 1, 1), 0);
        CHECKS.due("15: of what there was before", x.minority(1), -600);
        CHECKS.due("15: through a chain", x.minority(2), -4600);
        CHECKS.due("15: the head's", x.minority(0), 0);
        CHECKS.due("13: group(RESERVE)", x.group(RESERVE), 5200);
        long all = x.minority(0) + x.minority(1) + x.minority(2);
        for (int a = 0; a < 5; a++) {
            all += x.group(a);
        }
        CHECKS.due("13: it adds up to nothing", all, 0);
    }

    private static void negativeNetAssets() {
        ConsolidationDesk x = desk(1);
        x.hold(0, 1, 5001);
        x.rate(1, 3_000_000, 1_000_000);
        x.post(1, BALANCE, NONE, -10000);
        x.post(1, RESULT, NONE, 10000);
        x.consolidate();
        CHECKS.due("15: a debit", x.minority(1), 14997);
        CHECKS.due("14: what is wanting", x.trace(RESERVE, 1, 1), 20000);
        CHECKS.due("14: with the outsiders", x.trace(RESERVE, 1, 2), 5003);
    }

    private static void greatAmounts() {
        ConsolidationDesk x = new ConsolidationDesk();
        for (int c = 1; c < 12; c++) {
            x.company(1);
        }
        x.account(4);
        for (int a = 1; a <= 10; a++) {
            x.account(a <= 5 ? 1 : 2);
        }
        x.rate(1, 1_000_000_000, 1);
        for (int c = 0; c < 4; c++) {
            x.hold(c, c + 1, 5001);
        }
        for (int partner = NONE; partner < 12; partner++) {
            for (int a = 1; a <= 10 && partner != 4; a++) {
                x.post(4, a, partner, a <= 5 ? LIMIT : -LIMIT);
            }
        }
        CHECKS.due("12: consolidate()", x.consolidate(), 0);
        CHECKS.due("14: twelve of the greatest", x.trace(1, 4, 0), 12_000_000_000_000_000L);
        CHECKS.due("14: at the lowest rate", x.trace(6, 4, 0), -12_000_000L);
        CHECKS.due("14: what is wanting", x.trace(0, 4, 0), -59_999_999_940_000_000L);
        CHECKS.due("15: 9374499849979999 parts of 10^16", x.minority(4), -56_246_999_099_879_994L);
        CHECKS.due("13: group(0)", x.group(0), -3_753_000_840_120_006L);
        CHECKS.due("16: ten with each of the four others", x.openItems(), 40);
    }
}
