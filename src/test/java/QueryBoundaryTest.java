/** The boundary cases of the terms and of promises 12 to 17, each in a method of its own. */
public final class QueryBoundaryTest {
    private static final int MIN = Cases.MIN;
    private static final int MAX = Cases.MAX;
    private static final int ADD = Cases.ADD;
    private static final int SUB = Cases.SUB;
    private static final int MUL = Cases.MUL;
    private static final int LESS = Cases.LESS;
    private static final int BAD_ARG = Cases.BAD_ARG;
    private static final int FULL = Cases.FULL;
    private static final int CIRCULAR = Cases.CIRCULAR;
    private static final int[] ANY = {0, 1, -1, 5, 6, 7, 8, MIN, MAX};
    private static final Checks c = Cases.c;

    public static void main(String[] args) {
        Cases.runAll(QueryBoundaryTest.class);
    }

    // "An object is used for at most 512 calls after it has been made"

    static void termsTheLastCallAfterManySets() {
        RevisionQueries x = new RevisionQueries();
        Cases.giveInput(x, 0, 0);
        for (int n = 3; n <= 511; n++) {
            c.due("set, call " + n, 1, x.set(0, n));
        }
        c.due("value(0), call 512", 511, x.value(0));
    }

    static void termsTheLastCallAfterManyBodies() {
        RevisionQueries x = new RevisionQueries();
        for (int n = 2; n <= 510; n += 2) {
            c.due("num, call " + (n - 1), 1, x.num(n));
            c.due("finish, call " + n, 1, x.finish(n / 2 % 8));
        }
        c.due("value(7), call 511", 510, x.value(7));
        c.due("value(0), call 512", 496, x.value(0));
    }

    static void termsTheLastCallAfterManyReadings() {
        RevisionQueries x = Cases.in(QueryBoundaryTest::circularSides);
        // Ten calls have been made; each round of five asks for all that can be computed.
        for (int n = 10; n < 510; n += 5) {
            c.due("value(0) after call " + n, 44, x.value(0));
            c.due("needs(1) after call " + n, CIRCULAR, x.needs(1));
            c.due("total() after call " + n, 44 + 5 * 44, x.total());
            c.due("circulars() after call " + n, 1 << 1 | 1 << 3, x.circulars());
            c.due("stirred(0, 1) after call " + n, 2, x.stirred(0, 1));
        }
        c.due("set(0, 1), call 511", 1, x.set(0, 1));
        c.due("circulars(), call 512", 1 | 1 << 3, x.circulars());
    }

    static void termsTheLastCallAfterManyDrafts() {
        RevisionQueries x = new RevisionQueries();
        for (int n = 0; n < 506; n += 11) {
            for (int t = 1; t <= 10; t++) {
                c.due("num, call " + (n + t), t, x.num(n));
            }
            x.scrap();
        }
        for (int t = 1; t <= 5; t++) {
            c.due("input, call " + (506 + t), t, x.input(t));
        }
        c.due("drafted(), call 512", 5, x.drafted());
    }

    // "a BODY, a list of at most 10 TOKENS worked off from the first to the last"

    static void termsTenTokensAreWorkedOffFirstToLast() {
        RevisionQueries x = Cases.in(Cases::busy);
        x.num(0);
        x.choose(0, 7);
        x.num(100);
        x.apply(SUB);
        x.input(5);
        x.apply(MUL);
        x.query(3);
        x.apply(ADD);
        x.num(-470);
        c.due("the tenth token", 1, x.apply(SUB));
        c.due("finish(1)", 10, x.finish(1));
        c.due("value(1)", (70 - 100) * 17 + 40 + 470, x.value(1));
    }

    static void termsAnEleventhTokenIsRefused() {
        Cases.leaves("num(1)", FULL, x -> x.num(1), Cases.ALL_FULL);
        Cases.leaves("input(1)", FULL, x -> x.input(1), Cases.ALL_FULL);
        Cases.leaves("query(1)", FULL, x -> x.query(1), Cases.ALL_FULL);
        Cases.leaves("choose(1, 2)", FULL, x -> x.choose(1, 2), Cases.ALL_FULL);
        Cases.leaves("apply(1)", FULL, x -> x.apply(1), Cases.ALL_FULL);
    }

    static void termsBodiesOfTenTokensLieApart() {
        RevisionQueries x = new RevisionQueries();
        Cases.give(x, 0, 5);
        for (int q = 1; q < 8; q++) {
            tenTokens(x, q);
            c.due("finish(" + q + ")", 10, x.finish(q));
        }
        c.due("value(0)", 5, x.value(0));
        int want = 5;
        for (int q = 1; q < 8; q++) {
            want = (q + 1) * 3 + q - want;
            c.due("value(" + q + ")", want, x.value(q));
        }
    }

    static void termsTenTokensInEveryBody() {
        // Ten tokens that leave one number have a choose among them, so eight such bodies need
        // each other and all are circular.
        RevisionQueries x = new RevisionQueries();
        for (int q = 0; q < 8; q++) {
            tenTokens(x, q);
            c.due("finish(" + q + ")", 10, x.finish(q));
        }
        c.due("circulars()", 255, x.circulars());
        Cases.give(x, 7, 2);
        c.due("circulars() with a shorter body of 7", 0, x.circulars());
        c.due("value(0)", 3 - 2, x.value(0));
        c.due("value(1)", 6 + 1 - 1, x.value(1));
    }

    static void termsTheHighestPileThatABodyCanHave() {
        RevisionQueries x = new RevisionQueries();
        for (int t = 1; t <= 5; t++) {
            x.num(t * t * t);
        }
        for (int t = 1; t <= 4; t++) {
            x.apply(SUB);
        }
        x.finish(6);
        c.due("value(6)", 1 - (8 - (27 - (64 - 125))), x.value(6));
    }

    static void termsThePileIsEmptyAtTheBeginOfEachBody() {
        RevisionQueries x = new RevisionQueries();
        // Query 1 is worked off in the midst of query 0, with numbers on the pile of query 0.
        x.num(100);
        x.num(10);
        x.query(1);
        x.apply(SUB);
        x.apply(SUB);
        x.finish(0);
        x.num(7);
        x.num(3);
        x.apply(SUB);
        x.finish(1);
        c.due("value(0)", 100 - (10 - 4), x.value(0));
        c.due("value(1)", 4, x.value(1));
    }

    // "(Arithmetic wraps as in Java ints.)"

    static void termsAddWraps() {
        c.due("MAX add 1", MIN, worked(MAX, 1, ADD));
        c.due("1 add MAX", MIN, worked(1, MAX, ADD));
        c.due("MIN add -1", MAX, worked(MIN, -1, ADD));
        c.due("MIN add MIN", 0, worked(MIN, MIN, ADD));
        c.due("MAX add MAX", -2, worked(MAX, MAX, ADD));
    }

    static void termsSubWraps() {
        c.due("MIN sub 1", MAX, worked(MIN, 1, SUB));
        c.due("MAX sub -1", MIN, worked(MAX, -1, SUB));
        c.due("0 sub MIN", MIN, worked(0, MIN, SUB));
        c.due("MIN sub MAX", 1, worked(MIN, MAX, SUB));
        c.due("MAX sub MIN", -1, worked(MAX, MIN, SUB));
    }

    static void termsMulWraps() {
        c.due("MIN mul -1", MIN, worked(MIN, -1, MUL));
        c.due("MAX mul MAX", 1, worked(MAX, MAX, MUL));
        c.due("MAX mul 2", -2, worked(MAX, 2, MUL));
        c.due("65536 mul 65536", 0, worked(65536, 65536, MUL));
        c.due("46341 mul 46341", -2147479015, worked(46341, 46341, MUL));
    }

    static void termsLessDoesNotWrap() {
        c.due("MIN less MAX", 1, worked(MIN, MAX, LESS));
        c.due("MAX less MIN", 0, worked(MAX, MIN, LESS));
        c.due("MIN less 1", 1, worked(MIN, 1, LESS));
        c.due("1 less MIN", 0, worked(1, MIN, LESS));
        c.due("-2 less MAX", 1, worked(-2, MAX, LESS));
        c.due("MAX less -2", 0, worked(MAX, -2, LESS));
    }

    static void termsLessOfEqualAndNextNumbers() {
        for (int n : new int[] {MIN + 1, -1, 0, 1, MAX - 1}) {
            c.due(n + " less the same", 0, worked(n, n, LESS));
            c.due(n + " less the next", 1, worked(n, n + 1, LESS));
            c.due(n + " less the one before", 0, worked(n, n - 1, LESS));
        }
        c.due("MIN less MIN", 0, worked(MIN, MIN, LESS));
        c.due("MAX less MAX", 0, worked(MAX, MAX, LESS));
    }

    static void termsAWrapInTheMidstOfABody() {
        RevisionQueries x = new RevisionQueries();
        x.set(0, MAX);
        x.input(0);
        x.num(1);
        x.apply(ADD);
        x.num(0);
        x.apply(LESS);
        x.finish(0);
        c.due("(MAX add 1) less 0", 1, x.value(0));
    }

    static void termsChooseWithANumberThatWrappedToZero() {
        RevisionQueries x = new RevisionQueries();
        Cases.give(x, 1, 11);
        Cases.give(x, 2, 22);
        x.num(65536);
        x.num(65536);
        x.apply(MUL);
        x.choose(1, 2);
        x.finish(0);
        c.due("value(0)", 22, x.value(0));
    }

    static void termsChooseTakesEveryNumberButZeroAlike() {
        for (int n : new int[] {1, -1, 2, -2, 256, 65536, MIN, MAX}) {
            RevisionQueries x = new RevisionQueries();
            Cases.give(x, 1, 11);
            Cases.give(x, 2, 22);
            x.num(n);
            x.choose(1, 2);
            x.finish(0);
            c.due("choose by " + n, 11, x.value(0));
        }
    }

    // "the query is CIRCULAR, and so is every query whose working off comes to need the value of a
    // circular one. Of a choose only the value that is put on is needed."

    static void termsAQueryThatACircularOneNeedsIsNotCircularByThat() {
        RevisionQueries x = new RevisionQueries();
        Cases.give(x, 0, 6);
        x.query(0);
        x.query(1);
        x.apply(ADD);
        x.finish(1);
        c.due("circular(1)", true, x.circular(1));
        c.due("circular(0)", false, x.circular(0));
        c.due("value(0)", 6, x.value(0));
    }

    static void termsTheSameQueryTwiceIsNotCircular() {
        RevisionQueries x = new RevisionQueries();
        x.set(0, 5);
        Cases.giveInput(x, 4, 0);
        x.query(4);
        x.query(4);
        x.apply(MUL);
        x.finish(2);
        Cases.giveQuery(x, 6, 4);
        x.query(6);
        x.query(2);
        x.apply(ADD);
        x.finish(1);
        c.due("circulars()", 0, x.circulars());
        c.due("value(1)", 30, x.value(1));
    }

    static void termsTwoQueriesThatNameEachOtherButDoNotNeed() {
        RevisionQueries x = new RevisionQueries();
        Cases.giveChoice(x, 0, 0, 1, 2);
        Cases.giveChoice(x, 1, 0, 3, 0);
        Cases.give(x, 2, 22);
        Cases.give(x, 3, 33);
        c.due("circulars() with 0", 0, x.circulars());
        c.due("value(1) with 0", 22, x.value(1));
        x.set(0, 1);
        c.due("circulars() with 1", 0, x.circulars());
        c.due("value(0) with 1", 33, x.value(0));
    }

    static void termsADecisionByACircularQueryIsCircular() {
        RevisionQueries x = new RevisionQueries();
        Cases.giveQuery(x, 4, 4);
        x.query(4);
        x.choose(1, 2);
        x.finish(0);
        c.due("circular(0)", true, x.circular(0));
    }

    static void termsADecisionByTheQueryItselfIsCircular() {
        RevisionQueries x = new RevisionQueries();
        x.query(0);
        x.choose(1, 1);
        x.finish(0);
        c.due("circular(0)", true, x.circular(0));
        c.due("circulars()", 1, x.circulars());
    }

    // "No call ever throws. A refused call answers the code named and changes nothing."

    static void termsNoCallThrows() {
        Cases.State[] states = {Cases::fresh, Cases::busy, Cases::heightOne, Cases::heightTwo, Cases::nineOfHeightOne,
            Cases::nineOfHeightTwo, Cases::fullOfHeightOne, Cases::fullOfHeightTwo, Cases::fullOfHeightTen,
            Cases::allCircular};
        int calls = 0;
        for (Cases.State s : states) {
            for (int a : ANY) {
                calls += callAll(Cases.in(s), a);
                calls += callWithTwo(s, a);
            }
        }
        c.holds("calls were made, that it", calls > 0);
    }

    private static int callAll(RevisionQueries x, int a) {
        x.get(a);
        x.value(a);
        x.circular(a);
        x.needs(a);
        x.total();
        x.circulars();
        x.apply(a);
        x.num(a);
        x.input(a);
        x.query(a);
        x.drafted();
        x.finish(a);
        x.value(a);
        x.scrap();
        x.finish(a);
        x.apply(a);
        return 16;
    }

    private static int callWithTwo(Cases.State s, int a) {
        RevisionQueries x = Cases.in(s);
        for (int b : ANY) {
            x.choose(a, b);
            x.finish(b);
            x.stirred(a, b);
            x.set(a, b);
            x.total();
        }
        return 5 * ANY.length;
    }

    // Promise 12: "0 if it is circular or q is not 0 to 7."

    static void p12TooSmall() {
        for (int q : Cases.TOO_SMALL) {
            Cases.leaves("value(" + q + ")", 0, x -> x.value(q), Cases::busy, Cases::allCircular);
            Cases.leaves("value(" + q + ")", 0, x -> x.value(q), QueryBoundaryTest::noneIsZero);
        }
    }

    static void p12TooLarge() {
        for (int q : Cases.NO_QUERY_TOO_LARGE) {
            Cases.leaves("value(" + q + ")", 0, x -> x.value(q), Cases::busy, Cases::allCircular);
            Cases.leaves("value(" + q + ")", 0, x -> x.value(q), QueryBoundaryTest::noneIsZero);
        }
    }

    static void p12FirstAndLastQuery() {
        Cases.leaves("value(0)", 101, x -> x.value(0), QueryBoundaryTest::noneIsZero);
        Cases.leaves("value(7)", 108, x -> x.value(7), QueryBoundaryTest::noneIsZero);
    }

    static void p12Circular() {
        for (int q = 0; q < 8; q++) {
            int at = q;
            Cases.leaves("value(" + q + ")", 0, x -> x.value(at), Cases::allCircular);
        }
    }

    static void p12ZeroThoughItHadAValueBefore() {
        for (int q = 0; q < 8; q++) {
            RevisionQueries x = Cases.in(QueryBoundaryTest::noneIsZero);
            c.due("value(" + q + ") before", 101 + q, x.value(q));
            Cases.giveQuery(x, q, q);
            c.due("value(" + q + ") of itself", 0, x.value(q));
        }
    }

    static void p12NeedsItselfAmongSoundTokens() {
        RevisionQueries x = new RevisionQueries();
        x.num(5);
        x.query(2);
        x.apply(ADD);
        x.finish(2);
        c.due("value(2)", 0, x.value(2));
    }

    static void p12NeedsItselfThroughOthers() {
        RevisionQueries x = new RevisionQueries();
        x.num(5);
        x.query(6);
        x.apply(ADD);
        x.finish(2);
        Cases.giveQuery(x, 6, 4);
        Cases.giveQuery(x, 4, 2);
        c.due("value(2)", 0, x.value(2));
        c.due("value(4)", 0, x.value(4));
        c.due("value(6)", 0, x.value(6));
        Cases.give(x, 4, 8);
        c.due("value(2), mended", 13, x.value(2));
        c.due("value(6), mended", 8, x.value(6));
    }

    static void p12NeedsACircularOneAfterOtherTokens() {
        RevisionQueries x = new RevisionQueries();
        Cases.giveQuery(x, 0, 0);
        x.num(5);
        x.num(0);
        x.query(0);
        x.apply(MUL);
        x.apply(ADD);
        x.finish(1);
        c.due("value(1)", 0, x.value(1));
    }

    static void p12TheCircularSideOfAChooseIsNotPutOn() {
        RevisionQueries x = Cases.in(QueryBoundaryTest::circularSides);
        c.due("value(0) with 0", 44, x.value(0));
        c.due("value(1) with 0", 0, x.value(1));
        x.set(0, -1);
        c.due("value(0) with -1", 0, x.value(0));
        c.due("value(1) with -1", 44, x.value(1));
    }

    static void p12ItselfIsTheSideOfAChooseThatIsNotPutOn() {
        RevisionQueries x = new RevisionQueries();
        Cases.give(x, 4, 44);
        Cases.giveChoice(x, 0, 0, 0, 4);
        c.due("value(0) with 0", 44, x.value(0));
        x.set(0, 1);
        c.due("value(0) with 1", 0, x.value(0));
    }

    static void p12LongestChains() {
        RevisionQueries up = Cases.in(QueryBoundaryTest::chainUp);
        RevisionQueries down = Cases.in(QueryBoundaryTest::chainDown);
        for (int q = 0; q < 8; q++) {
            c.due("value(" + q + ") of the chain up", 10 + 8 - q, up.value(q));
            c.due("value(" + q + ") of the chain down", 10 + 1 + q, down.value(q));
        }
    }

    static void p12ALongestChainThroughChooses() {
        RevisionQueries x = new RevisionQueries();
        // Each query's choice is settled only when the next query is.
        for (int q = 0; q < 7; q++) {
            x.query(q + 1);
            x.choose(q + 1, q);
            x.finish(q);
        }
        Cases.giveInput(x, 7, 3);
        x.set(3, 9);
        for (int q = 0; q < 8; q++) {
            c.due("value(" + q + ") with 9", 9, x.value(q));
        }
        x.set(3, 0);
        c.due("circulars() with 0", 127, x.circulars());
        c.due("value(7) with 0", 0, x.value(7));
    }

    static void p12ValuesThatLookLikeCodes() {
        for (int n : new int[] {-1, -2, -3, -4}) {
            RevisionQueries x = new RevisionQueries();
            Cases.give(x, 3, n);
            Cases.giveQuery(x, 4, 3);
            c.due("value(3)", n, x.value(3));
            c.due("value(4)", n, x.value(4));
            c.due("circulars()", 0, x.circulars());
            c.due("needs(4)", 1 << 9, x.needs(4));
        }
    }

    static void p12UpToDateWithoutAskingInBetween() {
        RevisionQueries x = Cases.in(QueryBoundaryTest::chainUp);
        c.due("value(0)", 18, x.value(0));
        x.set(3, MAX);
        c.due("value(0), wrapped", MAX + 8, x.value(0));
        Cases.give(x, 4, 1);
        c.due("value(0) with a new body below", 5, x.value(0));
        c.due("value(5) with a new body above", MAX + 3, x.value(5));
    }

    // Promise 13: "Whether query q is circular; false if q is not 0 to 7."

    static void p13TooSmall() {
        for (int q : Cases.TOO_SMALL) {
            Cases.leaves("circular(" + q + ")", 0, x -> bit(x.circular(q)), Cases::fresh, Cases::busy, Cases::allCircular);
        }
    }

    static void p13TooLarge() {
        for (int q : Cases.NO_QUERY_TOO_LARGE) {
            Cases.leaves("circular(" + q + ")", 0, x -> bit(x.circular(q)), Cases::fresh, Cases::busy, Cases::allCircular);
        }
    }

    static void p13FirstAndLastQuery() {
        for (int q : new int[] {0, 7}) {
            RevisionQueries x = new RevisionQueries();
            Cases.giveQuery(x, q, q);
            c.due("circular(" + q + ")", true, x.circular(q));
            c.due("circular(" + (7 - q) + ")", false, x.circular(7 - q));
        }
    }

    static void p13AskingChangesNothing() {
        for (int q = 0; q < 8; q++) {
            int at = q;
            Cases.leaves("circular(" + q + ")", q == 5 || q == 6 ? 1 : 0, x -> bit(x.circular(at)), Cases::heightTwo);
            Cases.leaves("circular(" + q + ")", 1, x -> bit(x.circular(at)), Cases::allCircular);
        }
    }

    static void p13NeedsItselfDirectly() {
        for (int q = 0; q < 8; q++) {
            RevisionQueries x = new RevisionQueries();
            Cases.giveQuery(x, q, q);
            for (int k = 0; k < 8; k++) {
                c.due("circular(" + k + ") if " + q + " needs itself", k == q, x.circular(k));
            }
        }
    }

    static void p13NeedsItselfThroughOneOther() {
        RevisionQueries x = new RevisionQueries();
        Cases.giveQuery(x, 2, 5);
        c.due("circular(2) before", false, x.circular(2));
        Cases.giveQuery(x, 5, 2);
        for (int k = 0; k < 8; k++) {
            c.due("circular(" + k + ")", k == 2 || k == 5, x.circular(k));
        }
    }

    static void p13NeedsItselfThroughAllOthers() {
        RevisionQueries x = Cases.in(Cases::ring);
        for (int q = 0; q < 8; q++) {
            c.due("circular(" + q + ")", true, x.circular(q));
        }
        for (int broken = 0; broken < 8; broken++) {
            x = Cases.in(Cases::ring);
            Cases.give(x, broken, 1);
            for (int q = 0; q < 8; q++) {
                c.due("circular(" + q + ") if " + broken + " is mended", false, x.circular(q));
            }
        }
    }

    static void p13NeedsACircularOneButNotItself() {
        RevisionQueries x = new RevisionQueries();
        for (int q = 0; q < 7; q++) {
            Cases.giveQuery(x, q, q + 1);
        }
        c.due("circular(0) before", false, x.circular(0));
        Cases.giveQuery(x, 7, 7);
        for (int q = 0; q < 8; q++) {
            c.due("circular(" + q + ")", true, x.circular(q));
        }
    }

    static void p13TheLongestChainsAreNotCircular() {
        RevisionQueries up = Cases.in(QueryBoundaryTest::chainUp);
        RevisionQueries down = Cases.in(QueryBoundaryTest::chainDown);
        for (int q = 0; q < 8; q++) {
            c.due("circular(" + q + ") in the chain up", false, up.circular(q));
            c.due("circular(" + q + ") in the chain down", false, down.circular(q));
        }
    }

    static void p13TheCircularSideOfAChooseIsNotPutOn() {
        RevisionQueries x = Cases.in(QueryBoundaryTest::circularSides);
        c.due("circular(0) with 0", false, x.circular(0));
        c.due("circular(1) with 0", true, x.circular(1));
        x.set(0, MIN);
        c.due("circular(0) with MIN", true, x.circular(0));
        c.due("circular(1) with MIN", false, x.circular(1));
        x.set(0, 0);
        c.due("circular(0) with 0 again", false, x.circular(0));
    }

    static void p13ItselfIsTheSideOfAChooseThatIsNotPutOn() {
        RevisionQueries x = new RevisionQueries();
        Cases.giveChoice(x, 6, 1, 6, 2);
        Cases.giveChoice(x, 5, 1, 2, 5);
        c.due("circular(6) with 0", false, x.circular(6));
        c.due("circular(5) with 0", true, x.circular(5));
        x.set(1, 1);
        c.due("circular(6) with 1", true, x.circular(6));
        c.due("circular(5) with 1", false, x.circular(5));
    }

    static void p13BothSidesOfAChooseAreCircular() {
        RevisionQueries x = new RevisionQueries();
        Cases.giveQuery(x, 3, 3);
        Cases.giveQuery(x, 4, 4);
        Cases.giveChoice(x, 0, 0, 3, 4);
        c.due("circular(0) with 0", true, x.circular(0));
        x.set(0, 1);
        c.due("circular(0) with 1", true, x.circular(0));
    }

    static void p13ACircularQueryThatDoesNotMatterForTheValue() {
        RevisionQueries x = new RevisionQueries();
        Cases.giveQuery(x, 3, 3);
        x.query(3);
        x.num(0);
        x.apply(MUL);
        x.finish(0);
        c.due("circular(0), times 0", true, x.circular(0));
        x.query(3);
        x.choose(1, 1);
        x.finish(0);
        c.due("circular(0), a choice between the same", true, x.circular(0));
    }

    // Promise 14: "CIRCULAR if the query is circular; BAD_ARG if q is not 0 to 7."

    static void p14TooSmall() {
        for (int q : Cases.TOO_SMALL) {
            Cases.leaves("needs(" + q + ")", BAD_ARG, x -> x.needs(q), Cases::fresh, Cases::busy, Cases::allCircular);
        }
    }

    static void p14TooLarge() {
        for (int q : Cases.NO_QUERY_TOO_LARGE) {
            Cases.leaves("needs(" + q + ")", BAD_ARG, x -> x.needs(q), Cases::fresh, Cases::busy, Cases::allCircular);
        }
    }

    static void p14FirstAndLastQuery() {
        RevisionQueries x = new RevisionQueries();
        Cases.giveInput(x, 0, 5);
        Cases.giveInput(x, 7, 0);
        c.due("needs(0)", 32, x.needs(0));
        c.due("needs(7)", 1, x.needs(7));
    }

    static void p14FirstAndLastBits() {
        RevisionQueries x = new RevisionQueries();
        Cases.giveInput(x, 3, 0);
        c.due("needs of input 0", 1, x.needs(3));
        Cases.giveInput(x, 3, 5);
        c.due("needs of input 5", 32, x.needs(3));
        Cases.giveQuery(x, 3, 0);
        c.due("needs of query 0", 64, x.needs(3));
        Cases.giveQuery(x, 3, 7);
        c.due("needs of query 7", 8192, x.needs(3));
    }

    static void p14NothingIsNeeded() {
        RevisionQueries x = new RevisionQueries();
        x.num(2);
        x.num(3);
        x.apply(LESS);
        x.finish(3);
        c.due("needs(3)", 0, x.needs(3));
    }

    static void p14AllIsNeeded() {
        RevisionQueries x = new RevisionQueries();
        for (int q = 0; q < 6; q++) {
            x.input(q);
            x.query(q + 1);
            x.apply(ADD);
            x.finish(q);
        }
        Cases.giveQuery(x, 6, 7);
        c.due("needs(0)", 63 + (127 << 7), x.needs(0));
        c.due("needs(5)", 32 + (3 << 12), x.needs(5));
        c.due("needs(6)", 1 << 13, x.needs(6));
        c.due("needs(7)", 0, x.needs(7));
    }

    static void p14TwiceNeededCountsOnce() {
        RevisionQueries x = new RevisionQueries();
        Cases.giveInput(x, 1, 4);
        x.query(1);
        x.input(4);
        x.apply(ADD);
        x.query(1);
        x.apply(ADD);
        x.input(4);
        x.apply(ADD);
        x.finish(2);
        c.due("needs(2)", 1 << 4 | 1 << 7, x.needs(2));
    }

    static void p14Circular() {
        for (int q = 0; q < 8; q++) {
            int at = q;
            Cases.leaves("needs(" + q + ")", CIRCULAR, x -> x.needs(at), Cases::allCircular);
        }
    }

    static void p14NeedsItselfDirectly() {
        RevisionQueries x = new RevisionQueries();
        x.input(1);
        x.query(4);
        x.apply(ADD);
        x.finish(4);
        c.due("needs(4)", CIRCULAR, x.needs(4));
        c.due("needs(3)", 0, x.needs(3));
    }

    static void p14NeedsItselfThroughOthers() {
        RevisionQueries x = new RevisionQueries();
        Cases.giveQuery(x, 1, 7);
        Cases.giveQuery(x, 7, 4);
        Cases.giveQuery(x, 4, 1);
        c.due("needs(1)", CIRCULAR, x.needs(1));
        c.due("needs(4)", CIRCULAR, x.needs(4));
        c.due("needs(7)", CIRCULAR, x.needs(7));
        Cases.giveInput(x, 4, 2);
        c.due("needs(1), mended", 1 << 2 | 1 << 10 | 1 << 13, x.needs(1));
        c.due("needs(7), mended", 1 << 2 | 1 << 10, x.needs(7));
        c.due("needs(4), mended", 1 << 2, x.needs(4));
    }

    static void p14NeedsACircularOneButNotItself() {
        RevisionQueries x = new RevisionQueries();
        Cases.giveQuery(x, 7, 7);
        Cases.giveQuery(x, 6, 7);
        Cases.giveQuery(x, 0, 6);
        c.due("needs(6)", CIRCULAR, x.needs(6));
        c.due("needs(0)", CIRCULAR, x.needs(0));
    }

    static void p14OnlyTheSideOfAChooseThatIsPutOn() {
        RevisionQueries x = new RevisionQueries();
        Cases.giveInput(x, 1, 1);
        Cases.giveInput(x, 2, 2);
        Cases.giveChoice(x, 0, 5, 1, 2);
        c.due("needs(0) with 0", 1 << 5 | 1 << 2 | 1 << 8, x.needs(0));
        x.set(5, 1);
        c.due("needs(0) with 1", 1 << 5 | 1 << 1 | 1 << 7, x.needs(0));
    }

    static void p14TheCircularSideOfAChooseIsNotPutOn() {
        RevisionQueries x = Cases.in(QueryBoundaryTest::circularSides);
        c.due("needs(0) with 0", 1 | 1 << 10, x.needs(0));
        c.due("needs(1) with 0", CIRCULAR, x.needs(1));
        x.set(0, 1);
        c.due("needs(0) with 1", CIRCULAR, x.needs(0));
        c.due("needs(1) with 1", 1 | 1 << 10, x.needs(1));
    }

    static void p14ItselfIsTheSideOfAChooseThatIsNotPutOn() {
        RevisionQueries x = new RevisionQueries();
        Cases.giveChoice(x, 6, 1, 6, 2);
        c.due("needs(6) with 0", 1 << 1 | 1 << 8, x.needs(6));
        x.set(1, 1);
        c.due("needs(6) with 1", CIRCULAR, x.needs(6));
    }

    static void p14NeededThoughTheValueDoesNotDependOnIt() {
        RevisionQueries x = new RevisionQueries();
        x.input(2);
        x.query(5);
        x.apply(MUL);
        x.num(0);
        x.apply(MUL);
        x.finish(1);
        c.due("needs(1), times 0", 1 << 2 | 1 << 11, x.needs(1));
        Cases.giveChoice(x, 1, 3, 4, 4);
        c.due("needs(1), a choice between the same", 1 << 3 | 1 << 10, x.needs(1));
    }

    // Promise 15: "The sum, wrapping, over all queries q that are not circular"

    static void p15NoneIsCircular() {
        Cases.leaves("total()", 101 + 2 * 102 + 3 * 103 + 4 * 104 + 5 * 105 + 6 * 106 + 7 * 107 + 8 * 108,
                x -> x.total(), QueryBoundaryTest::noneIsZero);
    }

    static void p15AllAreZero() {
        Cases.leaves("total()", 0, x -> x.total(), Cases::fresh);
    }

    static void p15EachQueryCountsItsNumberPlusOne() {
        for (int q = 0; q < 8; q++) {
            RevisionQueries x = new RevisionQueries();
            Cases.give(x, q, 1);
            c.due("total() with 1 in query " + q, q + 1, x.total());
        }
    }

    static void p15SomeAreCircular() {
        Cases.leaves("total()", 3 - 2 * 2 + 3 * 3 + 4 * 40 - 5 * 520 + 8 * 70, x -> x.total(), Cases::busy);
    }

    static void p15EachQueryIsLeftOutIfItIsCircular() {
        for (int q = 0; q < 8; q++) {
            RevisionQueries x = Cases.in(QueryBoundaryTest::noneIsZero);
            int before = x.total();
            Cases.giveQuery(x, q, q);
            c.due("total() without query " + q, before - (q + 1) * (101 + q), x.total());
        }
    }

    static void p15AllAreCircular() {
        Cases.leaves("total()", 0, x -> x.total(), Cases::allCircular);
        RevisionQueries x = Cases.in(QueryBoundaryTest::noneIsZero);
        x.total();
        Cases.ring(x);
        c.due("total() after values that were not 0", 0, x.total());
    }

    static void p15ProductWraps() {
        RevisionQueries x = new RevisionQueries();
        Cases.give(x, 7, 1 << 29);
        c.due("8 times 2 to the power 29", 0, x.total());
        Cases.give(x, 7, MAX);
        c.due("8 times MAX", -8, x.total());
        Cases.give(x, 7, 1 << 28);
        c.due("8 times 2 to the power 28", MIN, x.total());
    }

    static void p15SumWraps() {
        RevisionQueries x = new RevisionQueries();
        Cases.give(x, 0, MAX);
        Cases.give(x, 1, 1);
        c.due("MAX + 2", MIN + 1, x.total());
        Cases.give(x, 0, MIN);
        Cases.give(x, 1, -1);
        c.due("MIN - 2", MAX - 1, x.total());
    }

    // Promise 16: "The set of the circular queries, as the sum of 2 to the power q."

    static void p16NoneIsCircular() {
        Cases.leaves("circulars()", 0, x -> x.circulars(), Cases::fresh, QueryBoundaryTest::noneIsZero);
    }

    static void p16OneIsCircular() {
        for (int q = 0; q < 8; q++) {
            RevisionQueries x = new RevisionQueries();
            Cases.giveQuery(x, q, q);
            c.due("circulars() of " + q, 1 << q, x.circulars());
        }
    }

    static void p16SomeAreCircular() {
        Cases.leaves("circulars()", 1 << 5 | 1 << 6, x -> x.circulars(), Cases::busy);
        RevisionQueries x = new RevisionQueries();
        Cases.giveQuery(x, 0, 7);
        Cases.giveQuery(x, 7, 0);
        Cases.giveQuery(x, 3, 0);
        c.due("circulars()", 1 + 8 + 128, x.circulars());
    }

    static void p16AllAreCircular() {
        Cases.leaves("circulars()", 255, x -> x.circulars(), Cases::allCircular);
        RevisionQueries x = new RevisionQueries();
        for (int q = 0; q < 8; q++) {
            Cases.giveQuery(x, q, 4);
        }
        c.due("circulars() if all need 4", 255, x.circulars());
    }

    static void p16NoLongerCircular() {
        RevisionQueries x = Cases.in(Cases::ring);
        c.due("circulars() of the ring", 255, x.circulars());
        Cases.give(x, 0, 1);
        c.due("circulars() of the broken ring", 0, x.circulars());
    }

    static void p16ByTheSideOfAChoose() {
        RevisionQueries x = Cases.in(QueryBoundaryTest::circularSides);
        c.due("circulars() with 0", 1 << 1 | 1 << 3, x.circulars());
        x.set(0, 1);
        c.due("circulars() with 1", 1 | 1 << 3, x.circulars());
    }

    // Promise 17: "nothing is changed. BAD_ARG if i is not 0 to 5."

    static void p17TooSmall() {
        for (int i : Cases.TOO_SMALL) {
            Cases.leaves("stirred(" + i + ", 9)", BAD_ARG, x -> x.stirred(i, 9),
                    Cases::fresh, Cases::heightTwo, Cases::allCircular);
        }
    }

    static void p17TooLarge() {
        for (int i : Cases.NO_INPUT_TOO_LARGE) {
            Cases.leaves("stirred(" + i + ", 9)", BAD_ARG, x -> x.stirred(i, 9),
                    Cases::fresh, Cases::heightTwo, Cases::allCircular);
        }
    }

    static void p17FirstAndLastInput() {
        RevisionQueries x = new RevisionQueries();
        Cases.giveInput(x, 1, 0);
        Cases.giveInput(x, 2, 5);
        Cases.giveInput(x, 3, 5);
        c.due("stirred(0, 1)", 1, x.stirred(0, 1));
        c.due("stirred(5, 1)", 2, x.stirred(5, 1));
    }

    static void p17TheNumberThatTheInputHas() {
        int[] numbers = {3, -5, 7, 11, -13, 17};
        for (int i = 0; i < 6; i++) {
            int at = i;
            Cases.leaves("stirred(" + i + ", " + numbers[i] + ")", 0, x -> x.stirred(at, numbers[at]), Cases::heightTwo);
            Cases.leaves("stirred(" + i + ", 0)", 0, x -> x.stirred(at, 0), Cases::fresh);
        }
        Cases.leaves("stirred(2, 8)", 0, x -> x.stirred(2, 8), Cases::allCircular);
    }

    static void p17NoQueryNeedsTheInput() {
        for (int v : ANY) {
            Cases.leaves("stirred(3, " + v + ")", 0, x -> x.stirred(3, v), Cases::busy);
        }
    }

    static void p17AllQueriesNeedTheInput() {
        for (int v : new int[] {1, -1, MIN, MAX}) {
            Cases.leaves("stirred(4, " + v + ")", 8, x -> x.stirred(4, v), x -> {
                for (int q = 0; q < 8; q++) {
                    Cases.giveInput(x, q, 4);
                }
            });
        }
    }

    static void p17NeededButTheValueStays() {
        RevisionQueries x = new RevisionQueries();
        x.input(0);
        x.num(10);
        x.apply(LESS);
        x.finish(0);
        c.due("stirred(0, 9)", 0, x.stirred(0, 9));
        c.due("stirred(0, 10)", 1, x.stirred(0, 10));
        c.due("stirred(0, MIN)", 0, x.stirred(0, MIN));
    }

    static void p17AWrapThatBringsTheValueBack() {
        RevisionQueries x = new RevisionQueries();
        x.input(0);
        x.num(2);
        x.apply(MUL);
        x.finish(0);
        c.due("stirred(0, MIN)", 0, x.stirred(0, MIN));
        c.due("stirred(0, 1)", 1, x.stirred(0, 1));
    }

    static void p17WouldBecomeCircular() {
        RevisionQueries x = new RevisionQueries();
        Cases.give(x, 4, 44);
        Cases.giveChoice(x, 0, 0, 0, 4);
        c.due("stirred(0, 1)", 1, x.stirred(0, 1));
    }

    static void p17WouldBecomeCircularWithTheValueZero() {
        RevisionQueries x = new RevisionQueries();
        Cases.giveChoice(x, 0, 0, 0, 4);
        c.due("value(0)", 0, x.value(0));
        c.due("stirred(0, 1)", 1, x.stirred(0, 1));
    }

    static void p17WouldCeaseToBeCircular() {
        RevisionQueries x = new RevisionQueries();
        Cases.give(x, 4, 44);
        Cases.giveChoice(x, 0, 0, 0, 4);
        x.set(0, 1);
        c.due("stirred(0, 0)", 1, x.stirred(0, 0));
    }

    static void p17WouldCeaseToBeCircularWithTheValueZero() {
        RevisionQueries x = new RevisionQueries();
        Cases.giveChoice(x, 0, 0, 0, 4);
        x.set(0, 1);
        c.due("value(0)", 0, x.value(0));
        c.due("stirred(0, 0)", 1, x.stirred(0, 0));
    }

    static void p17WouldCeaseToBeCircularWithTheValueOfBefore() {
        RevisionQueries x = new RevisionQueries();
        Cases.give(x, 4, 44);
        Cases.giveChoice(x, 0, 0, 0, 4);
        c.due("value(0)", 44, x.value(0));
        x.set(0, 1);
        c.due("stirred(0, 0)", 1, x.stirred(0, 0));
    }

    static void p17OneWouldBecomeAndOneWouldCease() {
        RevisionQueries x = Cases.in(QueryBoundaryTest::circularSides);
        c.due("stirred(0, 1)", 2, x.stirred(0, 1));
        x.set(0, 1);
        c.due("stirred(0, 0)", 2, x.stirred(0, 0));
    }

    static void p17AsManyAsCanBecomeOrCease() {
        // A query that needs no query is never circular and one that needs one needs such a one in
        // the end, so seven at most become circular; the eighth gets another value.
        RevisionQueries x = Cases.in(QueryBoundaryTest::sevenThatInputTwoCloses);
        c.due("stirred(2, 1)", 8, x.stirred(2, 1));
        x.set(2, 1);
        c.due("circulars()", 254, x.circulars());
        c.due("stirred(2, 0)", 8, x.stirred(2, 0));
        c.due("stirred(2, 2)", 1, x.stirred(2, 2));
    }

    static void p17StaysCircularBothTimes() {
        RevisionQueries x = Cases.in(Cases::allCircular);
        for (int i = 0; i < 6; i++) {
            c.due("stirred(" + i + ", 77)", 0, x.stirred(i, 77));
        }
    }

    static void p17StaysCircularThoughItTakesInputsInBefore() {
        RevisionQueries x = new RevisionQueries();
        Cases.giveInput(x, 0, 0);
        c.due("value(0)", 0, x.value(0));
        x.input(0);
        x.query(0);
        x.apply(ADD);
        x.finish(0);
        c.due("stirred(0, 5)", 0, x.stirred(0, 5));
        c.due("stirred(0, -5)", 0, x.stirred(0, -5));
    }

    static void p17StaysCircularByTheOtherSide() {
        RevisionQueries x = new RevisionQueries();
        Cases.giveQuery(x, 3, 3);
        Cases.giveChoice(x, 0, 0, 0, 3);
        c.due("stirred(0, 1)", 0, x.stirred(0, 1));
        x.set(0, 1);
        c.due("stirred(0, 0)", 0, x.stirred(0, 0));
    }

    static void p17TheSideOfAChooseThatIsNotPutOnDoesNotCount() {
        RevisionQueries x = new RevisionQueries();
        Cases.giveInput(x, 1, 1);
        Cases.giveChoice(x, 0, 0, 1, 2);
        c.due("stirred(1, 5), with query 2 put on", 1, x.stirred(1, 5));
        x.set(0, 1);
        c.due("stirred(1, 5), with query 1 put on", 2, x.stirred(1, 5));
    }

    static void p17OtherNeedsWithTheSameValueDoNotCount() {
        RevisionQueries x = new RevisionQueries();
        Cases.give(x, 1, 6);
        Cases.give(x, 2, 6);
        Cases.giveChoice(x, 0, 0, 1, 2);
        c.due("stirred(0, 1)", 0, x.stirred(0, 1));
    }

    static void p17NothingIsChanged() {
        Cases.leaves("stirred(0, 8)", 3, x -> x.stirred(0, 8), Cases::busy, Cases::heightOne, Cases::heightTwo,
                Cases::fullOfHeightOne, Cases::fullOfHeightTwo, Cases::fullOfHeightTen);
        Cases.leaves("stirred(2, 0)", 1, x -> x.stirred(2, 0), Cases::busy, Cases::heightOne, Cases::heightTwo);
        Cases.leaves("stirred(2, 1)", 8, x -> x.stirred(2, 1), QueryBoundaryTest::sevenThatInputTwoCloses);
    }

    static void p17TwiceAnswersTheSame() {
        RevisionQueries x = Cases.in(QueryBoundaryTest::circularSides);
        c.due("stirred(0, 1)", 2, x.stirred(0, 1));
        c.due("stirred(0, 1) again", 2, x.stirred(0, 1));
        c.due("get(0)", 0, x.get(0));
        c.due("set(0, 1)", 1, x.set(0, 1));
    }

    private static long bit(boolean b) {
        return b ? 1 : 0;
    }

    private static int worked(int below, int top, int op) {
        RevisionQueries x = new RevisionQueries();
        x.num(below);
        x.num(top);
        x.apply(op);
        x.finish(0);
        return x.value(0);
    }

    private static void noneIsZero(RevisionQueries x) {
        for (int q = 0; q < 8; q++) {
            Cases.give(x, q, 101 + q);
        }
    }

    /** Query 0 is circular if input 0 is not 0, query 1 if it is 0, query 3 always. */
    private static void circularSides(RevisionQueries x) {
        Cases.give(x, 4, 44);
        Cases.giveQuery(x, 3, 3);
        Cases.giveChoice(x, 0, 0, 3, 4);
        Cases.giveChoice(x, 1, 0, 4, 3);
    }

    /** Each query is one more than the next, the last one more than input 3, which is 10. */
    private static void chainUp(RevisionQueries x) {
        for (int q = 0; q < 8; q++) {
            oneMore(x, q, q + 1);
        }
    }

    private static void chainDown(RevisionQueries x) {
        for (int q = 0; q < 8; q++) {
            oneMore(x, q, q - 1);
        }
    }

    private static void oneMore(RevisionQueries x, int q, int k) {
        x.set(3, 10);
        x.num(1);
        if (k < 0 || k > 7) {
            x.input(3);
        } else {
            x.query(k);
        }
        x.apply(ADD);
        x.finish(q);
    }

    /** Query 0 is input 2; the others are query 0 as long as it is 0, and need themselves if not. */
    private static void sevenThatInputTwoCloses(RevisionQueries x) {
        Cases.giveInput(x, 0, 2);
        for (int q = 1; q < 8; q++) {
            Cases.giveChoice(x, q, 2, q, 0);
        }
    }

    /** Drafts (q + 1) * 3 + (q - the query before q), the one before 0 being 7. */
    private static void tenTokens(RevisionQueries x, int q) {
        x.num(q);
        x.num(1);
        x.apply(ADD);
        x.num(3);
        x.apply(MUL);
        x.num(q);
        x.num(0);
        x.choose(q, (q + 7) % 8);
        x.apply(SUB);
        x.apply(ADD);
    }
}
