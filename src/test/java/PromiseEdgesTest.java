/** The boundary cases of promises 1 to 17: a method for each sentence, or for each part of a long one. */
public final class PromiseEdgesTest extends DeskTest {
    public static void main(String[] args) {
        newObject();
        companyOfNoCurrency();
        companyWhenTwelveAreThere();
        accountOfNoClass();
        accountWhenTwelveAreThere();
        accountWhenThereIsAReserve();
        holdingBecomes();
        holdingOfNumbersNotAsSaid();
        holdingAgainstTheRules();
        rateNotOf0();
        rateOfNumbersNotAsSaid();
        postAdds();
        postToNoSuchCompany();
        postToNoSuchAccount();
        postWithNoSuchPartner();
        postToAnAccountThatTakesNone();
        postOfTooMuch();
        historicBecomes();
        historicOfNoSuchOne();
        historicTooGreat();
        postedOfNoSuchOne();
        isBalancedOfAny();
        controlledOfAny();
        effectiveOfAny();
        consolidateBooksAsTheyAre();
        consolidateUnbalanced();
        consolidateWithoutRates();
        consolidateWithoutReserve();
        consolidateInThisOrder();
        groupOfLaterAccount();
        groupBeforeAny();
        groupOfNoSuchAccount();
        traceOfEachStep();
        traceOfNotControlled();
        traceOfOneMadeLater();
        traceBeforeAny();
        traceOfNoSuchStep();
        traceOfNoSuchOne();
        minorityOfNotControlled();
        minorityOfOneMadeLater();
        minorityBeforeAny();
        minorityOfNoSuchCompany();
        openItemsBeforeAny();
        openItemsOfNone();
        openItemOfEachWhat();
        openItemThatIsNotThere();
        openItemOfNoSuchWhat();
        CHECKS.end();
    }

    private static void newObject() {
        CHECKS.sentence("1: The head alone, no accounts, nothing consolidated");
        ConsolidationDesk x = new ConsolidationDesk();
        CHECKS.due("isBalanced(0)", x.isBalanced(0), 1);
        CHECKS.due("isBalanced(1)", x.isBalanced(1), NONE);
        CHECKS.throwsNoSuchElement("posted(0, 0, NONE)", () -> x.posted(0, 0, NONE));
        CHECKS.due("post(0, 0, NONE, 0)", x.post(0, 0, NONE, 0), false);
        CHECKS.due("openItems()", x.openItems(), 0);
        CHECKS.throwsNoSuchElement("minority(0)", () -> x.minority(0));
        CHECKS.due("account(1)", x.account(1), 0);
        CHECKS.throwsNoSuchElement("group(0)", () -> x.group(0));
        CHECKS.due("company(0)", x.company(0), 1);
    }

    private static void companyOfNoCurrency() {
        CHECKS.sentence("2: NONE when there is no such currency");
        ConsolidationDesk x = new ConsolidationDesk();
        for (int wrong : notAmong(4)) {
            CHECKS.due("company(" + wrong + ")", x.company(wrong), NONE);
        }
        CHECKS.due("company(3)", x.company(3), 1);
        CHECKS.due("company(0)", x.company(0), 2);
    }

    private static void companyWhenTwelveAreThere() {
        CHECKS.sentence("2: NONE when .. twelve are there");
        ConsolidationDesk x = new ConsolidationDesk();
        for (int c = 1; c <= 11; c++) {
            CHECKS.due("company(" + c % 4 + ")", x.company(c % 4), c);
        }
        for (int currency = 0; currency <= 3; currency++) {
            CHECKS.due("company(" + currency + "), full", x.company(currency), NONE);
        }
        CHECKS.due("isBalanced(11)", x.isBalanced(11), 1);
        CHECKS.due("isBalanced(12)", x.isBalanced(12), NONE);
    }

    private static void accountOfNoClass() {
        CHECKS.sentence("3: NONE when there is no such class");
        ConsolidationDesk x = new ConsolidationDesk();
        CHECKS.due("account(0)", x.account(0), NONE);
        for (int wrong : notAmong(5)) {
            CHECKS.due("account(" + wrong + ")", x.account(wrong), NONE);
        }
        CHECKS.due("account(1)", x.account(1), 0);
        CHECKS.due("account(4)", x.account(4), 1);
    }

    private static void accountWhenTwelveAreThere() {
        CHECKS.sentence("3: NONE when .. twelve are there");
        ConsolidationDesk x = new ConsolidationDesk();
        for (int a = 0; a <= 11; a++) {
            CHECKS.due("account", x.account(a % 3 + 1), a);
        }
        for (int sort = 1; sort <= 4; sort++) {
            CHECKS.due("account(" + sort + "), full", x.account(sort), NONE);
        }
        CHECKS.due("no reserve came of it", x.consolidate(), -200);
        ConsolidationDesk y = new ConsolidationDesk();
        for (int a = 0; a <= 10; a++) {
            y.account(1);
        }
        CHECKS.due("account(4), the twelfth", y.account(4), 11);
        CHECKS.due("it is the reserve", y.consolidate(), 0);
    }

    private static void accountWhenThereIsAReserve() {
        CHECKS.sentence("3: NONE when .. there is a reserve already");
        ConsolidationDesk x = new ConsolidationDesk();
        CHECKS.due("account(4)", x.account(4), 0);
        CHECKS.due("account(4), a second", x.account(4), NONE);
        for (int sort = 1; sort <= 3; sort++) {
            CHECKS.due("account(" + sort + ")", x.account(sort), sort);
            CHECKS.due("account(4), a second", x.account(4), NONE);
        }
    }

    private static void holdingBecomes() {
        CHECKS.sentence("4: The owner's holding becomes so much (0: none)");
        ConsolidationDesk x = bareDesk(0);
        for (int part : new int[] {6000, 7000, 7000, 1, 10000, 0, 0}) {
            CHECKS.due("hold(0, 1, " + part + ")", x.hold(0, 1, part), true);
            CHECKS.due("effective(1)", x.effective(1), part * (WHOLE / 10000));
            CHECKS.due("controlled(1)", x.controlled(1), part > 5000 ? 1 : 0);
        }
    }

    private static void holdingOfNumbersNotAsSaid() {
        CHECKS.sentence("4: false when a number is not as said");
        ConsolidationDesk x = bareDesk(0, 0);
        for (int wrong : notAmong(3)) {
            CHECKS.due("hold(" + wrong + ", 1, 1)", x.hold(wrong, 1, 1), false);
            CHECKS.due("hold(0, " + wrong + ", 1)", x.hold(0, wrong, 1), false);
            CHECKS.due("hold(0, " + wrong + ", 0)", x.hold(0, wrong, 0), false);
        }
        for (int wrong : new int[] {-1, 10001, MIN, MAX}) {
            CHECKS.due("hold(0, 1, " + wrong + ")", x.hold(0, 1, wrong), false);
        }
        x.company(0);
        CHECKS.due("hold(0, 3, 1), when it is there", x.hold(0, 3, 1), true);
        CHECKS.due("hold(3, 2, 1), when it is there", x.hold(3, 2, 1), true);
    }

    private static void holdingAgainstTheRules() {
        CHECKS.sentence("4: false when .. the rules for holdings would be broken");
        ConsolidationDesk x = bareDesk(0, 0, 0, 0, 0);
        x.hold(0, 1, 6000);
        x.hold(1, 2, 6000);
        x.hold(2, 3, 6000);
        x.hold(3, 4, 6000);
        CHECKS.due("a part of itself", x.hold(1, 1, 1), false);
        CHECKS.due("a part of itself, round", x.hold(3, 1, 1), false);
        CHECKS.due("a fifth holding", x.hold(4, 5, 1), false);
        CHECKS.due("more than the whole", x.hold(5, 3, 4001), false);
        CHECKS.due("effective(3), as before", x.effective(3), 2_160_000_000_000_000L);
        CHECKS.due("effective(1), as before", x.effective(1), 6_000_000_000_000_000L);
        CHECKS.due("effective(5), as before", x.effective(5), 0);
        CHECKS.due("just the whole", x.hold(5, 3, 4000), true);
    }

    private static void rateNotOf0() {
        CHECKS.sentence("5: A currency's rates (not of 0)");
        ConsolidationDesk x = desk();
        post(x, 0, BALANCE, NONE, RESULT, 10);
        CHECKS.due("rate(0, 2000000, 2000000)", x.rate(0, 2_000_000, 2_000_000), false);
        CHECKS.due("rate(0, 1000000, 1000000)", x.rate(0, 1_000_000, 1_000_000), false);
        x.consolidate();
        CHECKS.due("trace", x.trace(BALANCE, 0, 0), 10);
        for (int currency = 1; currency <= 3; currency++) {
            CHECKS.due("rate(" + currency + "), with no company of it", x.rate(currency, 1, 1), true);
        }
    }

    private static void rateOfNumbersNotAsSaid() {
        CHECKS.sentence("5: false when a number is not as said");
        ConsolidationDesk x = wholeDesk(1);
        post(x, 1, BALANCE, NONE, RESULT, 1000);
        CHECKS.due("rate(1, 2000000, 3000000)", x.rate(1, 2_000_000, 3_000_000), true);
        for (int wrong : notAmong(4)) {
            CHECKS.due("rate(" + wrong + ", 1, 1)", x.rate(wrong, 1, 1), false);
        }
        for (int wrong : new int[] {0, -1, 1_000_000_001, MIN, MAX}) {
            CHECKS.due("rate(1, " + wrong + ", 1)", x.rate(1, wrong, 1), false);
            CHECKS.due("rate(1, 1, " + wrong + ")", x.rate(1, 1, wrong), false);
        }
        x.consolidate();
        CHECKS.due("closing, as before", x.trace(BALANCE, 1, 0), 2000);
        CHECKS.due("average, as before", x.trace(RESULT, 1, 0), -3000);
    }

    private static void postAdds() {
        CHECKS.sentence("6: Adds to a sum of a book");
        ConsolidationDesk x = desk(0);
        long[] posts = {5, 7, -20, 0, LIMIT};
        long[] sums = {5, 12, -8, -8, LIMIT - 8};
        for (int i = 0; i < posts.length; i++) {
            CHECKS.due("post " + posts[i], x.post(1, RESULT, 0, posts[i]), true);
            CHECKS.due("posted", x.posted(1, RESULT, 0), sums[i]);
        }
        CHECKS.due("without a partner", x.posted(1, RESULT, NONE), 0);
        CHECKS.due("of another account", x.posted(1, BALANCE, 0), 0);
        CHECKS.due("of another book", x.posted(0, RESULT, 1), 0);
    }

    private static void postToNoSuchCompany() {
        CHECKS.sentence("6: false when there is no such company");
        ConsolidationDesk x = desk(0);
        for (int wrong : notAmong(2)) {
            CHECKS.due("company " + wrong, x.post(wrong, BALANCE, NONE, 1), false);
        }
        x.company(0);
        CHECKS.due("company 2, when it is there", x.post(2, BALANCE, NONE, 1), true);
    }

    private static void postToNoSuchAccount() {
        CHECKS.sentence("6: false when there is no such .. account");
        ConsolidationDesk x = desk(0);
        for (int wrong : notAmong(4)) {
            CHECKS.due("account " + wrong, x.post(1, wrong, NONE, 1), false);
        }
        x.account(1);
        CHECKS.due("account 4, when it is there", x.post(1, 4, NONE, 1), true);
    }

    private static void postWithNoSuchPartner() {
        CHECKS.sentence("6: false when there is no such .. partner (NONE, or another company than this)");
        ConsolidationDesk x = desk(0);
        for (int wrong : notPartnersOf(1, 2)) {
            CHECKS.due("partner " + wrong + " of 1", x.post(1, BALANCE, wrong, 1), false);
        }
        CHECKS.due("partner 0 of 0", x.post(0, BALANCE, 0, 1), false);
        CHECKS.due("partner 0 of 1", x.post(1, BALANCE, 0, 1), true);
        CHECKS.due("partner NONE of 1", x.post(1, BALANCE, NONE, 1), true);
        CHECKS.due("partner 1 of 0", x.post(0, BALANCE, 1, 1), true);
        x.company(0);
        CHECKS.due("partner 2 of 1, when it is there", x.post(1, BALANCE, 2, 1), true);
    }

    private static void postToAnAccountThatTakesNone() {
        CHECKS.sentence("6: false when .. the account takes none");
        ConsolidationDesk x = desk(0);
        CHECKS.due("equity, a partner", x.post(1, EQUITY, 0, 1), false);
        CHECKS.due("equity, no partner", x.post(1, EQUITY, NONE, 1), true);
        CHECKS.due("reserve, a partner", x.post(1, RESERVE, 0, 1), false);
        CHECKS.due("reserve, no partner", x.post(1, RESERVE, NONE, 1), false);
        CHECKS.due("balance, a partner", x.post(1, BALANCE, 0, 1), true);
        CHECKS.due("result, a partner", x.post(1, RESULT, 0, 1), true);
    }

    private static void postOfTooMuch() {
        CHECKS.sentence("6: false when .. the sum would be too great");
        ConsolidationDesk x = desk(0);
        for (int account : new int[] {BALANCE, RESULT, EQUITY}) {
            CHECKS.due("the greatest", x.post(1, account, NONE, LIMIT), true);
            CHECKS.due("1 more", x.post(1, account, NONE, 1), false);
            CHECKS.due("as much as there is", x.post(1, account, NONE, Long.MAX_VALUE), false);
            CHECKS.due("wrapping around", x.post(1, account, NONE, Long.MIN_VALUE), false);
            CHECKS.due("the greatest below 0", x.post(1, account, NONE, -2 * LIMIT), true);
            CHECKS.due("1 less", x.post(1, account, NONE, -1), false);
            CHECKS.due("posted", x.posted(1, account, NONE), -LIMIT);
        }
    }

    private static void historicBecomes() {
        CHECKS.sentence("7: The historic amount .. becomes so much (at most 10 to the power 12 without sign)");
        ConsolidationDesk x = wholeDesk(1);
        x.rate(1, 2_000_000, 2_000_000);
        post(x, 1, BALANCE, NONE, EQUITY, 3);
        for (long cents : new long[] {5, 5, -1, LIMIT, -LIMIT, 0}) {
            CHECKS.due("historic " + cents, x.historic(1, EQUITY, cents), true);
            x.consolidate();
            CHECKS.due("trace", x.trace(EQUITY, 1, 0), cents);
        }
    }

    private static void historicOfNoSuchOne() {
        CHECKS.sentence("7: false when there is no such one");
        ConsolidationDesk x = desk(1);
        for (int wrong : notAmong(2)) {
            CHECKS.due("company " + wrong, x.historic(wrong, EQUITY, 1), false);
        }
        for (int wrong : notAmong(4)) {
            CHECKS.due("account " + wrong, x.historic(1, wrong, 1), false);
        }
        CHECKS.due("a balance account", x.historic(1, BALANCE, 1), false);
        CHECKS.due("a result account", x.historic(1, RESULT, 1), false);
        CHECKS.due("the reserve", x.historic(1, RESERVE, 1), false);
        CHECKS.due("an equity account", x.historic(1, EQUITY, 1), true);
    }

    private static void historicTooGreat() {
        CHECKS.sentence("7: false when .. it is too great");
        ConsolidationDesk x = wholeDesk(1);
        x.rate(1, 1, 1);
        x.historic(1, EQUITY, 9);
        long[] wrong = {LIMIT + 1, -LIMIT - 1, Long.MAX_VALUE, Long.MIN_VALUE, Long.MIN_VALUE + 1, 1L << 62};
        for (long cents : wrong) {
            CHECKS.due("historic " + cents, x.historic(1, EQUITY, cents), false);
        }
        x.consolidate();
        CHECKS.due("trace, as before", x.trace(EQUITY, 1, 0), 9);
    }

    private static void postedOfNoSuchOne() {
        CHECKS.sentence("8: no such company, account or partner (NONE, or another company that is there; so it is below, too)");
        ConsolidationDesk x = desk(0);
        for (int wrong : notAmong(2)) {
            CHECKS.throwsNoSuchElement("company " + wrong, () -> x.posted(wrong, BALANCE, NONE));
        }
        for (int wrong : notAmong(4)) {
            CHECKS.throwsNoSuchElement("account " + wrong, () -> x.posted(1, wrong, NONE));
        }
        for (int wrong : notPartnersOf(1, 2)) {
            CHECKS.throwsNoSuchElement("partner " + wrong + " of 1", () -> x.posted(1, BALANCE, wrong));
        }
        CHECKS.throwsNoSuchElement("partner 0 of 0", () -> x.posted(0, BALANCE, 0));
        for (int account = 0; account < 4; account++) {
            CHECKS.due("account " + account + ", a partner", x.posted(1, account, 0), 0);
            CHECKS.due("account " + account + ", no partner", x.posted(1, account, NONE), 0);
        }
    }

    private static void isBalancedOfAny() {
        CHECKS.sentence("9: 1 when the company's book is balanced, 0 when not; NONE");
        ConsolidationDesk x = desk(0);
        x.post(1, BALANCE, NONE, 1);
        CHECKS.due("isBalanced(0)", x.isBalanced(0), 1);
        CHECKS.due("isBalanced(1)", x.isBalanced(1), 0);
        for (int wrong : notAmong(2)) {
            CHECKS.due("isBalanced(" + wrong + ")", x.isBalanced(wrong), NONE);
        }
    }

    private static void controlledOfAny() {
        CHECKS.sentence("10: 1 when it is controlled, 0 when not; NONE");
        ConsolidationDesk x = bareDesk(0);
        CHECKS.due("controlled(0)", x.controlled(0), 1);
        CHECKS.due("controlled(1)", x.controlled(1), 0);
        for (int wrong : notAmong(2)) {
            CHECKS.due("controlled(" + wrong + ")", x.controlled(wrong), NONE);
        }
    }

    private static void effectiveOfAny() {
        CHECKS.sentence("11: The effective share; NONE");
        ConsolidationDesk x = bareDesk(0);
        CHECKS.due("effective(0)", x.effective(0), WHOLE);
        CHECKS.due("effective(1)", x.effective(1), 0);
        for (int wrong : notAmong(2)) {
            CHECKS.due("effective(" + wrong + ")", x.effective(wrong), NONE);
        }
    }

    private static void consolidateBooksAsTheyAre() {
        CHECKS.sentence("12: Consolidates the books as they are: 0");
        ConsolidationDesk x = wholeDesk(1);
        x.rate(1, 1_000_000, 1_000_000);
        CHECKS.due("empty books", x.consolidate(), 0);
        CHECKS.due("group", x.group(BALANCE), 0);
        post(x, 1, BALANCE, NONE, RESULT, 10);
        x.rate(1, 2_000_000, 2_000_000);
        CHECKS.due("group, as it was then", x.group(BALANCE), 0);
        CHECKS.due("consolidate()", x.consolidate(), 0);
        CHECKS.due("group, as it is", x.group(BALANCE), 20);
        CHECKS.due("consolidate(), again", x.consolidate(), 0);
        CHECKS.due("group, the same", x.group(BALANCE), 20);
        CHECKS.due("the book, the same", x.posted(1, BALANCE, NONE), 10);
    }

    private static void consolidateUnbalanced() {
        CHECKS.sentence("12: -1 - the least controlled company whose book isn't balanced");
        ConsolidationDesk x = new ConsolidationDesk();
        x.account(1);
        x.account(4);
        for (int c = 1; c <= 11; c++) {
            x.company(0);
            x.hold(0, c, c == 7 ? 5000 : 5001);
        }
        for (int c = 0; c <= 11; c++) {
            x.post(c, 0, NONE, c + 1);
        }
        for (int c = 0; c <= 11; c++) {
            // 7 is not controlled, so that it is never told.
            CHECKS.due("up to " + c + " balanced", x.consolidate(), c == 7 ? -9 : -1 - c);
            x.post(c, 0, NONE, -c - 1);
        }
        x.post(7, 0, NONE, 1);
        CHECKS.due("but for 7", x.consolidate(), 0);
    }

    private static void consolidateWithoutRates() {
        CHECKS.sentence("12: -100 - the least currency of a controlled company that has no rates");
        ConsolidationDesk x = desk(3, 2, 1);
        CHECKS.due("none controlled", x.consolidate(), 0);
        x.hold(0, 1, 5001);
        CHECKS.due("currency 3", x.consolidate(), -103);
        x.hold(0, 2, 5001);
        CHECKS.due("currencies 3 and 2", x.consolidate(), -102);
        x.hold(0, 3, 5001);
        CHECKS.due("currencies 3, 2 and 1", x.consolidate(), -101);
        x.rate(2, 1, 1);
        CHECKS.due("currencies 3 and 1", x.consolidate(), -101);
        x.rate(1, 1, 1);
        CHECKS.due("currency 3", x.consolidate(), -103);
        x.hold(0, 1, 5000);
        CHECKS.due("3 no longer controlled", x.consolidate(), 0);
    }

    private static void consolidateWithoutReserve() {
        CHECKS.sentence("12: -200 when there is no reserve");
        ConsolidationDesk x = new ConsolidationDesk();
        CHECKS.due("no accounts", x.consolidate(), -200);
        for (int sort = 1; sort <= 3; sort++) {
            x.account(sort);
            CHECKS.due("accounts up to class " + sort, x.consolidate(), -200);
        }
        CHECKS.throwsNoSuchElement("group(0), before any", () -> x.group(0));
        x.account(4);
        CHECKS.due("a reserve", x.consolidate(), 0);
    }

    private static void consolidateInThisOrder() {
        CHECKS.sentence("12: in this order");
        ConsolidationDesk x = bareDesk(1, 0);
        x.account(1);
        x.hold(0, 1, 10000);
        x.hold(0, 2, 10000);
        x.post(2, 0, NONE, 1);
        CHECKS.due("all three", x.consolidate(), -3);
        x.post(2, 0, NONE, -1);
        CHECKS.due("no rates, no reserve", x.consolidate(), -101);
        x.rate(1, 1, 1);
        CHECKS.due("no reserve", x.consolidate(), -200);
        x.post(2, 0, NONE, 1);
        CHECKS.due("not balanced, no reserve", x.consolidate(), -3);
        x.account(4);
        CHECKS.due("not balanced", x.consolidate(), -3);
    }

    private static void groupOfLaterAccount() {
        CHECKS.sentence("13: the group's amount of an account (0 for one that was made later)");
        ConsolidationDesk x = desk();
        post(x, 0, BALANCE, NONE, RESULT, 5);
        x.consolidate();
        x.account(1);
        post(x, 0, 4, NONE, BALANCE, 3);
        CHECKS.due("made later", x.group(4), 0);
        CHECKS.due("made before", x.group(BALANCE), 5);
        x.consolidate();
        CHECKS.due("of the latest", x.group(4), 3);
    }

    private static void groupBeforeAny() {
        CHECKS.sentence("13: NoSuchElementException also before any");
        notBeforeAny("group(0)", x -> x.group(0));
    }

    private static void notBeforeAny(String name, DeskCall call) {
        ConsolidationDesk x = desk();
        CHECKS.throwsNoSuchElement(name, () -> call.answer(x));
        x.post(0, BALANCE, NONE, 1);
        x.consolidate();
        CHECKS.throwsNoSuchElement(name + ", one was refused", () -> call.answer(x));
        x.post(0, BALANCE, NONE, -1);
        x.consolidate();
        CHECKS.due(name + ", behind one", call.answer(x), 0);
    }

    private static void groupOfNoSuchAccount() {
        CHECKS.sentence("13: NoSuchElementException (no such account)");
        ConsolidationDesk x = desk();
        x.consolidate();
        for (int wrong : notAmong(4)) {
            CHECKS.throwsNoSuchElement("group(" + wrong + ")", () -> x.group(wrong));
        }
        CHECKS.due("group(3)", x.group(3), 0);
    }

    private static void traceOfEachStep() {
        CHECKS.sentence("14: with all partners, behind translation (step 0), elimination (1) and outside owners (2)");
        ConsolidationDesk x = desk(0, 0);
        x.hold(0, 1, 7500);
        post(x, 1, BALANCE, 0, EQUITY, 100);
        post(x, 1, BALANCE, 2, EQUITY, 20);
        post(x, 1, BALANCE, NONE, EQUITY, 8);
        post(x, 0, BALANCE, 1, EQUITY, -70);
        x.consolidate();
        long[] balances = {128, 58, 58};
        long[] reserves = {0, 0, 32};
        for (int step = 0; step <= 2; step++) {
            CHECKS.due("balance, step " + step, x.trace(BALANCE, 1, step), balances[step]);
            CHECKS.due("reserve, step " + step, x.trace(RESERVE, 1, step), reserves[step]);
            CHECKS.due("equity, step " + step, x.trace(EQUITY, 1, step), -128);
            CHECKS.due("the head's, step " + step, x.trace(BALANCE, 0, step), step == 0 ? -70 : 0);
        }
    }

    private static void traceOfNotControlled() {
        CHECKS.sentence("14: 0 for one that was not controlled");
        ConsolidationDesk x = desk(0);
        x.hold(0, 1, 5000);
        post(x, 1, BALANCE, 0, EQUITY, 100);
        x.consolidate();
        x.hold(0, 1, 5001);
        for (int step = 0; step <= 2; step++) {
            for (int account = 0; account < 4; account++) {
                CHECKS.due("trace(" + account + ", 1, " + step + ")", x.trace(account, 1, step), 0);
            }
        }
        x.consolidate();
        x.hold(0, 1, 5000);
        CHECKS.due("it was controlled then", x.trace(BALANCE, 1, 2), 100);
        x.consolidate();
        CHECKS.due("and no longer", x.trace(BALANCE, 1, 2), 0);
    }

    private static void traceOfOneMadeLater() {
        CHECKS.sentence("14: 0 for one that was .. made later");
        ConsolidationDesk x = desk();
        x.consolidate();
        x.company(0);
        x.account(1);
        x.hold(0, 1, 10000);
        post(x, 0, 4, NONE, BALANCE, 5);
        post(x, 1, 4, NONE, BALANCE, 5);
        for (int step = 0; step <= 2; step++) {
            CHECKS.due("an account, step " + step, x.trace(4, 0, step), 0);
            CHECKS.due("a company, step " + step, x.trace(BALANCE, 1, step), 0);
            CHECKS.due("both, step " + step, x.trace(4, 1, step), 0);
        }
    }

    private static void traceBeforeAny() {
        CHECKS.sentence("14: NoSuchElementException also before any");
        notBeforeAny("trace(0, 0, 0)", x -> x.trace(0, 0, 0));
    }

    private static void traceOfNoSuchStep() {
        CHECKS.sentence("14: NoSuchElementException .. for no such step");
        ConsolidationDesk x = desk(0);
        x.consolidate();
        for (int wrong : notAmong(3)) {
            CHECKS.throwsNoSuchElement("step " + wrong, () -> x.trace(0, 0, wrong));
        }
        CHECKS.due("trace(0, 0, 0)", x.trace(0, 0, 0), 0);
        CHECKS.due("trace(0, 0, 2)", x.trace(0, 0, 2), 0);
    }

    private static void traceOfNoSuchOne() {
        CHECKS.sentence("14: NoSuchElementException (no such account or company)");
        ConsolidationDesk x = desk(0);
        x.consolidate();
        for (int wrong : notAmong(2)) {
            CHECKS.throwsNoSuchElement("company " + wrong, () -> x.trace(0, wrong, 0));
        }
        for (int wrong : notAmong(4)) {
            CHECKS.throwsNoSuchElement("account " + wrong, () -> x.trace(wrong, 0, 0));
        }
        CHECKS.due("trace(3, 1, 2)", x.trace(3, 1, 2), 0);
    }

    private static void minorityOfNotControlled() {
        CHECKS.sentence("15: MINORITY of a company (0 for one that was not controlled");
        ConsolidationDesk x = desk(0);
        x.hold(0, 1, 5000);
        post(x, 1, BALANCE, NONE, EQUITY, 100);
        x.consolidate();
        CHECKS.due("not controlled", x.minority(1), 0);
        x.hold(0, 1, 6000);
        CHECKS.due("it was not then", x.minority(1), 0);
        x.consolidate();
        x.hold(0, 1, 5000);
        CHECKS.due("it was then", x.minority(1), -40);
        x.consolidate();
        CHECKS.due("and no longer", x.minority(1), 0);
        CHECKS.due("the head", x.minority(0), 0);
    }

    private static void minorityOfOneMadeLater() {
        CHECKS.sentence("15: 0 for one that was .. made later");
        ConsolidationDesk x = desk();
        x.consolidate();
        x.company(0);
        x.hold(0, 1, 6000);
        post(x, 1, BALANCE, NONE, EQUITY, 100);
        CHECKS.due("minority(1)", x.minority(1), 0);
        x.consolidate();
        CHECKS.due("minority(1), of the latest", x.minority(1), -40);
    }

    private static void minorityBeforeAny() {
        CHECKS.sentence("15: NoSuchElementException also before any");
        notBeforeAny("minority(0)", x -> x.minority(0));
    }

    private static void minorityOfNoSuchCompany() {
        CHECKS.sentence("15: NoSuchElementException (no such company)");
        ConsolidationDesk x = desk(0);
        x.consolidate();
        for (int wrong : notAmong(2)) {
            CHECKS.throwsNoSuchElement("minority(" + wrong + ")", () -> x.minority(wrong));
        }
        CHECKS.due("minority(1)", x.minority(1), 0);
    }

    /** Two open items, 8 of the head with 1 and 5 of 1 with the head, as soon as it is consolidated. */
    private static ConsolidationDesk deskWithItems() {
        ConsolidationDesk x = wholeDesk(0);
        post(x, 0, BALANCE, 1, BALANCE, 8);
        post(x, 1, RESULT, 0, RESULT, 5);
        return x;
    }

    private static void openItemsBeforeAny() {
        CHECKS.sentence("16: 0 before any");
        ConsolidationDesk x = deskWithItems();
        CHECKS.due("openItems()", x.openItems(), 0);
        x.post(0, BALANCE, NONE, 1);
        x.consolidate();
        CHECKS.due("openItems(), one was refused", x.openItems(), 0);
        x.post(0, BALANCE, NONE, -1);
        x.consolidate();
        CHECKS.due("openItems(), behind one", x.openItems(), 2);
    }

    private static void openItemsOfNone() {
        CHECKS.sentence("16: How many open items there are");
        ConsolidationDesk x = deskWithItems();
        x.consolidate();
        CHECKS.due("two", x.openItems(), 2);
        post(x, 1, BALANCE, 0, BALANCE, -8);
        x.consolidate();
        CHECKS.due("one", x.openItems(), 1);
        post(x, 0, RESULT, 1, RESULT, -5);
        x.consolidate();
        CHECKS.due("none", x.openItems(), 0);
        CHECKS.throwsNoSuchElement("openItem(0, 0), none", () -> x.openItem(0, 0));
    }

    private static void openItemOfEachWhat() {
        CHECKS.sentence("17: what 0 the company, 1 the partner, 2 the account, 3 the amount left");
        ConsolidationDesk x = deskWithItems();
        x.consolidate();
        long[][] items = {{0, 1, BALANCE, 8}, {1, 0, RESULT, 5}};
        for (int i = 0; i < 2; i++) {
            for (int what = 0; what <= 3; what++) {
                CHECKS.due("openItem(" + i + ", " + what + ")", x.openItem(i, what), items[i][what]);
            }
        }
        post(x, 0, BALANCE, 1, BALANCE, 1);
        CHECKS.due("of the latest consolidation", x.openItem(0, 3), 8);
    }

    private static void openItemThatIsNotThere() {
        CHECKS.sentence("17: NoSuchElementException: there is none");
        ConsolidationDesk x = deskWithItems();
        CHECKS.throwsNoSuchElement("openItem(0, 0), before any", () -> x.openItem(0, 0));
        x.consolidate();
        for (int wrong : notAmong(2)) {
            CHECKS.throwsNoSuchElement("openItem(" + wrong + ", 0)", () -> x.openItem(wrong, 0));
        }
        CHECKS.due("openItem(1, 0)", x.openItem(1, 0), 1);
    }

    private static void openItemOfNoSuchWhat() {
        CHECKS.sentence("17: NoSuchElementException: .. no such what");
        ConsolidationDesk x = deskWithItems();
        x.consolidate();
        for (int wrong : notAmong(4)) {
            CHECKS.throwsNoSuchElement("openItem(0, " + wrong + ")", () -> x.openItem(0, wrong));
            CHECKS.throwsNoSuchElement("openItem(2, " + wrong + ")", () -> x.openItem(2, wrong));
        }
    }
}
