/** The boundary cases of promises 1 to 11, each in a method that begins with the promise's number. */
public final class DraftBoundaryTest {
    private static final int MIN = Cases.MIN;
    private static final int MAX = Cases.MAX;
    private static final int ADD = Cases.ADD;
    private static final int SUB = Cases.SUB;
    private static final int MUL = Cases.MUL;
    private static final int BAD_ARG = Cases.BAD_ARG;
    private static final int FULL = Cases.FULL;
    private static final int BAD_PILE = Cases.BAD_PILE;
    private static final Checks c = Cases.c;

    public static void main(String[] args) {
        Cases.runAll(DraftBoundaryTest.class);
    }

    // Promise 1: "All inputs are 0; every query has the body num 0; the draft is empty."

    static void p1AllInputsAreZero() {
        RevisionQueries x = new RevisionQueries();
        for (int i = 0; i < 6; i++) {
            c.due("get(" + i + ")", 0, x.get(i));
            c.due("set(" + i + ", 0)", 0, x.set(i, 0));
        }
    }

    static void p1EveryQueryIsNumZero() {
        RevisionQueries x = new RevisionQueries();
        for (int q = 0; q < 8; q++) {
            c.due("value(" + q + ")", 0, x.value(q));
            c.due("circular(" + q + ")", false, x.circular(q));
            c.due("needs(" + q + ")", 0, x.needs(q));
        }
        for (int i = 0; i < 6; i++) {
            c.due("stirred(" + i + ", 1)", 0, x.stirred(i, 1));
        }
    }

    static void p1EveryQueryIsAsIfGivenNumZero() {
        RevisionQueries x = new RevisionQueries();
        for (int q = 0; q < 8; q++) {
            Cases.give(x, q, 0);
        }
        Cases.same("num 0 given to all", x, new RevisionQueries());
    }

    static void p1TheDraftIsEmpty() {
        RevisionQueries x = new RevisionQueries();
        c.due("drafted()", 0, x.drafted());
        c.due("finish(0)", BAD_PILE, x.finish(0));
        c.due("choose(0, 0)", BAD_PILE, x.choose(0, 0));
        for (int t = 1; t <= 10; t++) {
            c.due("num, token " + t, t, x.num(0));
        }
    }

    static void p1ANewObjectHasNothingOfAnother() {
        Cases.in(Cases::fullOfHeightTen);
        RevisionQueries x = new RevisionQueries();
        Cases.in(Cases::allCircular);
        Cases.same("beside others", new RevisionQueries(), x);
    }

    // Promise 2: i not 0 to 5; 1 if this changed it, else 0.

    static void p2TooSmall() {
        for (int i : Cases.TOO_SMALL) {
            Cases.leaves("set(" + i + ", 9)", BAD_ARG, x -> x.set(i, 9), Cases.WITH_ROOM);
        }
    }

    static void p2TooLarge() {
        for (int i : Cases.NO_INPUT_TOO_LARGE) {
            Cases.leaves("set(" + i + ", 9)", BAD_ARG, x -> x.set(i, 9), Cases.WITH_ROOM);
        }
    }

    static void p2OutOfRangeGoesBeforeNothingChanged() {
        for (int i : new int[] {-1, 6, MIN, MAX}) {
            Cases.leaves("set(" + i + ", 0)", BAD_ARG, x -> x.set(i, 0), Cases.WITH_ROOM);
        }
    }

    static void p2FirstAndLastInput() {
        RevisionQueries x = new RevisionQueries();
        c.due("set(0, 4)", 1, x.set(0, 4));
        c.due("set(5, 6)", 1, x.set(5, 6));
        int[] want = {4, 0, 0, 0, 0, 6};
        for (int i = 0; i < 6; i++) {
            c.due("get(" + i + ")", want[i], x.get(i));
        }
    }

    static void p2TheNumberThatItHasAtFirst() {
        for (int i = 0; i < 6; i++) {
            int at = i;
            Cases.leaves("set(" + i + ", 0)", 0, x -> x.set(at, 0), Cases::fresh);
        }
    }

    static void p2TheNumberThatItHasByNow() {
        int[] numbers = {3, -5, 7, 11, -13, 17};
        for (int i = 0; i < 6; i++) {
            int at = i;
            Cases.leaves("set(" + i + ", " + numbers[i] + ")", 0, x -> x.set(at, numbers[at]), Cases::busy);
        }
    }

    static void p2SmallestAndLargestNumber() {
        RevisionQueries x = new RevisionQueries();
        for (int v : new int[] {MIN, MAX, MIN, -1, 0}) {
            c.due("set(3, " + v + ")", 1, x.set(3, v));
            c.due("set(3, " + v + ") again", 0, x.set(3, v));
            c.due("get(3)", v, x.get(3));
        }
    }

    static void p2AwayAndBackAreTwoChanges() {
        RevisionQueries x = new RevisionQueries();
        c.due("away", 1, x.set(1, 2));
        c.due("back", 1, x.set(1, 0));
        c.due("get(1)", 0, x.get(1));
    }

    static void p2OfTwoNumbersOnlyTheLastCounts() {
        RevisionQueries x = new RevisionQueries();
        x.set(1, 2);
        x.set(1, 3);
        c.due("the one before the last", 1, x.set(1, 2));
    }

    // Promise 3: "0 if i is not 0 to 5."

    static void p3TooSmall() {
        for (int i : Cases.TOO_SMALL) {
            Cases.leaves("get(" + i + ")", 0, x -> x.get(i), Cases.WITH_ROOM);
        }
    }

    static void p3TooLarge() {
        for (int i : Cases.NO_INPUT_TOO_LARGE) {
            Cases.leaves("get(" + i + ")", 0, x -> x.get(i), Cases.WITH_ROOM);
        }
    }

    static void p3FirstAndLastInput() {
        Cases.leaves("get(0)", 3, x -> x.get(0), Cases::busy);
        Cases.leaves("get(5)", 17, x -> x.get(5), Cases::busy);
    }

    // Promise 4: "FULL if it has ten tokens. Otherwise its height afterwards."

    static void p4FullDraft() {
        for (int n : new int[] {0, 1, -1, MIN, MAX}) {
            Cases.leaves("num(" + n + ")", FULL, x -> x.num(n), Cases.ALL_FULL);
        }
    }

    static void p4TheTenthToken() {
        c.due("num at height 1", 2, Cases.in(Cases::nineOfHeightOne).num(8));
        c.due("num at height 2", 3, Cases.in(Cases::nineOfHeightTwo).num(8));
    }

    static void p4TenNumbersAreTheHighestDraft() {
        RevisionQueries x = new RevisionQueries();
        for (int t = 1; t <= 10; t++) {
            c.due("num, token " + t, t, x.num(t));
        }
        c.due("num, token 11", FULL, x.num(11));
    }

    static void p4AnyNumberIsTaken() {
        for (int n : new int[] {0, -1, -2, -3, -4, 6, 8, MIN, MAX}) {
            RevisionQueries x = new RevisionQueries();
            c.due("num(" + n + ")", 1, x.num(n));
            c.due("finish(2)", 1, x.finish(2));
            c.due("value(2)", n, x.value(2));
        }
    }

    static void p4RoomAgainAfterScrapAndFinish() {
        RevisionQueries x = Cases.in(Cases::fullOfHeightTen);
        x.scrap();
        c.due("num after scrap", 1, x.num(1));
        x = Cases.in(Cases::fullOfHeightOne);
        x.finish(0);
        c.due("num after finish", 1, x.num(1));
    }

    // Promise 5: "Tested in this order: i not 0 to 5 answers BAD_ARG; FULL."

    static void p5TooSmall() {
        for (int i : Cases.TOO_SMALL) {
            Cases.leaves("input(" + i + ")", BAD_ARG, x -> x.input(i), Cases.WITH_ROOM);
        }
    }

    static void p5TooLarge() {
        for (int i : Cases.NO_INPUT_TOO_LARGE) {
            Cases.leaves("input(" + i + ")", BAD_ARG, x -> x.input(i), Cases.WITH_ROOM);
        }
    }

    static void p5FirstAndLastInput() {
        RevisionQueries x = Cases.in(Cases::busy);
        c.due("input(0)", 1, x.input(0));
        c.due("input(5)", 2, x.input(5));
        c.due("sub", 1, x.apply(SUB));
        c.due("finish(7)", 3, x.finish(7));
        c.due("value(7)", 3 - 17, x.value(7));
        c.due("needs(7)", 33, x.needs(7));
    }

    static void p5FullDraft() {
        for (int i = 0; i < 6; i++) {
            int at = i;
            Cases.leaves("input(" + i + ")", FULL, x -> x.input(at), Cases.ALL_FULL);
        }
    }

    static void p5TooSmallGoesBeforeFull() {
        for (int i : Cases.TOO_SMALL) {
            Cases.leaves("input(" + i + ")", BAD_ARG, x -> x.input(i), Cases.ALL_FULL);
        }
    }

    static void p5TooLargeGoesBeforeFull() {
        for (int i : Cases.NO_INPUT_TOO_LARGE) {
            Cases.leaves("input(" + i + ")", BAD_ARG, x -> x.input(i), Cases.ALL_FULL);
        }
    }

    static void p5TheTenthToken() {
        c.due("input at height 1", 2, Cases.in(Cases::nineOfHeightOne).input(0));
        c.due("input at height 2", 3, Cases.in(Cases::nineOfHeightTwo).input(5));
    }

    // Promise 6: "Tested in this order: k not 0 to 7 answers BAD_ARG; FULL."

    static void p6TooSmall() {
        for (int k : Cases.TOO_SMALL) {
            Cases.leaves("query(" + k + ")", BAD_ARG, x -> x.query(k), Cases.WITH_ROOM);
        }
    }

    static void p6TooLarge() {
        for (int k : Cases.NO_QUERY_TOO_LARGE) {
            Cases.leaves("query(" + k + ")", BAD_ARG, x -> x.query(k), Cases.WITH_ROOM);
        }
    }

    static void p6FirstAndLastQuery() {
        RevisionQueries x = Cases.in(Cases::busy);
        c.due("query(0)", 1, x.query(0));
        c.due("query(7)", 2, x.query(7));
        c.due("sub", 1, x.apply(SUB));
        c.due("finish(3)", 3, x.finish(3));
        c.due("value(3)", 3 - 70, x.value(3));
        c.due("needs(3)", 1 | 1 << 6 | 1 << 13, x.needs(3));
    }

    static void p6FullDraft() {
        for (int k = 0; k < 8; k++) {
            int at = k;
            Cases.leaves("query(" + k + ")", FULL, x -> x.query(at), Cases.ALL_FULL);
        }
    }

    static void p6TooSmallGoesBeforeFull() {
        for (int k : Cases.TOO_SMALL) {
            Cases.leaves("query(" + k + ")", BAD_ARG, x -> x.query(k), Cases.ALL_FULL);
        }
    }

    static void p6TooLargeGoesBeforeFull() {
        for (int k : Cases.NO_QUERY_TOO_LARGE) {
            Cases.leaves("query(" + k + ")", BAD_ARG, x -> x.query(k), Cases.ALL_FULL);
        }
    }

    static void p6TheTenthToken() {
        c.due("query at height 1", 2, Cases.in(Cases::nineOfHeightOne).query(0));
        c.due("query at height 2", 3, Cases.in(Cases::nineOfHeightTwo).query(7));
    }

    static void p6ACircularQueryIsNoReasonToRefuse() {
        c.due("query(5)", 1, Cases.in(Cases::busy).query(5));
    }

    // Promise 7: "Tested in this order: k or m not 0 to 7 answers BAD_ARG; FULL; height 0 answers
    // BAD_PILE." A draft with a token has a height of 1 or more, so FULL and BAD_PILE never meet.

    static void p7FirstTooSmall() {
        for (int k : Cases.TOO_SMALL) {
            Cases.leaves("choose(" + k + ", 3)", BAD_ARG, x -> x.choose(k, 3), Cases::heightOne, Cases::heightTwo);
        }
    }

    static void p7FirstTooLarge() {
        for (int k : Cases.NO_QUERY_TOO_LARGE) {
            Cases.leaves("choose(" + k + ", 3)", BAD_ARG, x -> x.choose(k, 3), Cases::heightOne, Cases::heightTwo);
        }
    }

    static void p7SecondTooSmall() {
        for (int m : Cases.TOO_SMALL) {
            Cases.leaves("choose(3, " + m + ")", BAD_ARG, x -> x.choose(3, m), Cases::heightOne, Cases::heightTwo);
        }
    }

    static void p7SecondTooLarge() {
        for (int m : Cases.NO_QUERY_TOO_LARGE) {
            Cases.leaves("choose(3, " + m + ")", BAD_ARG, x -> x.choose(3, m), Cases::heightOne, Cases::heightTwo);
        }
    }

    static void p7BothOutOfRange() {
        for (int k : new int[] {-1, 8, MIN, MAX}) {
            for (int m : new int[] {-1, 8, MIN, MAX}) {
                String what = "choose(" + k + ", " + m + ")";
                Cases.leaves(what, BAD_ARG, x -> x.choose(k, m), Cases.WITH_ROOM);
                Cases.leaves(what, BAD_ARG, x -> x.choose(k, m), Cases.ALL_FULL);
            }
        }
    }

    static void p7FirstAndLastQuery() {
        RevisionQueries x = Cases.in(Cases::busy);
        x.num(1);
        c.due("choose(0, 7)", 1, x.choose(0, 7));
        c.due("finish(3)", 2, x.finish(3));
        c.due("value(3) of 0", 3, x.value(3));
        x.num(0);
        c.due("choose(0, 7)", 1, x.choose(0, 7));
        c.due("finish(3)", 2, x.finish(3));
        c.due("value(3) of 7", 70, x.value(3));
        x.num(1);
        c.due("choose(7, 0)", 1, x.choose(7, 0));
        c.due("finish(3)", 2, x.finish(3));
        c.due("value(3) of 7 again", 70, x.value(3));
    }

    static void p7FullDraft() {
        Cases.leaves("choose(0, 7)", FULL, x -> x.choose(0, 7), Cases.ALL_FULL);
        Cases.leaves("choose(7, 0)", FULL, x -> x.choose(7, 0), Cases.ALL_FULL);
    }

    static void p7HeightZero() {
        for (int k = 0; k < 8; k++) {
            int at = k;
            Cases.leaves("choose", BAD_PILE, x -> x.choose(at, 7 - at), Cases::fresh, Cases::busy);
        }
    }

    static void p7HeightZeroAfterScrapAndFinish() {
        RevisionQueries x = Cases.in(Cases::fullOfHeightTwo);
        x.scrap();
        c.due("choose after scrap", BAD_PILE, x.choose(0, 1));
        x = Cases.in(Cases::fullOfHeightOne);
        x.finish(0);
        c.due("choose after finish", BAD_PILE, x.choose(0, 1));
    }

    static void p7HeightOneIsEnoughAndStays() {
        c.due("choose at height 1", 1, Cases.in(Cases::heightOne).choose(0, 1));
        c.due("choose at height 2", 2, Cases.in(Cases::heightTwo).choose(0, 1));
    }

    static void p7OutOfRangeGoesBeforeFull() {
        for (int k : new int[] {-1, 8, MIN, MAX}) {
            Cases.leaves("choose(" + k + ", 0)", BAD_ARG, x -> x.choose(k, 0), Cases.ALL_FULL);
            Cases.leaves("choose(0, " + k + ")", BAD_ARG, x -> x.choose(0, k), Cases.ALL_FULL);
        }
    }

    static void p7OutOfRangeGoesBeforeHeightZero() {
        for (int k : new int[] {-1, 8, MIN, MAX}) {
            Cases.leaves("choose(" + k + ", 0)", BAD_ARG, x -> x.choose(k, 0), Cases::fresh, Cases::busy);
            Cases.leaves("choose(0, " + k + ")", BAD_ARG, x -> x.choose(0, k), Cases::fresh, Cases::busy);
        }
    }

    static void p7TheTenthToken() {
        c.due("choose at height 1", 1, Cases.in(Cases::nineOfHeightOne).choose(0, 7));
        c.due("choose at height 2", 2, Cases.in(Cases::nineOfHeightTwo).choose(7, 0));
    }

    static void p7TwiceTheSameQuery() {
        RevisionQueries x = Cases.in(Cases::heightOne);
        c.due("choose(3, 3)", 1, x.choose(3, 3));
        c.due("finish(7)", 2, x.finish(7));
        c.due("value(7)", 40, x.value(7));
    }

    // Promise 8: "Tested in this order: op not 0 to 3 answers BAD_ARG; FULL; height less than 2
    // answers BAD_PILE."

    static void p8TooSmall() {
        for (int op : Cases.TOO_SMALL) {
            Cases.leaves("apply(" + op + ")", BAD_ARG, x -> x.apply(op), Cases::heightTwo);
        }
    }

    static void p8TooLarge() {
        for (int op : Cases.NO_OP_TOO_LARGE) {
            Cases.leaves("apply(" + op + ")", BAD_ARG, x -> x.apply(op), Cases::heightTwo);
        }
    }

    static void p8FirstAndLastOp() {
        RevisionQueries x = Cases.in(Cases::heightTwo);
        c.due("add", 1, x.apply(0));
        c.due("finish(7)", 3, x.finish(7));
        c.due("value(7) of add", -5 + 9, x.value(7));
        x = Cases.in(Cases::heightTwo);
        c.due("less", 1, x.apply(3));
        c.due("finish(7)", 3, x.finish(7));
        c.due("value(7) of less", 1, x.value(7));
    }

    static void p8FullDraftThatIsHighEnough() {
        for (int op = 0; op < 4; op++) {
            int at = op;
            Cases.leaves("apply(" + op + ")", FULL, x -> x.apply(at), Cases.FULL_AND_HIGH);
        }
    }

    static void p8HeightZero() {
        for (int op = 0; op < 4; op++) {
            int at = op;
            Cases.leaves("apply(" + op + ")", BAD_PILE, x -> x.apply(at), Cases::fresh, Cases::busy);
        }
    }

    static void p8HeightOne() {
        for (int op = 0; op < 4; op++) {
            int at = op;
            Cases.leaves("apply(" + op + ")", BAD_PILE, x -> x.apply(at), Cases::heightOne, Cases::nineOfHeightOne);
        }
    }

    static void p8HeightTwoIsEnough() {
        for (int op = 0; op < 4; op++) {
            c.due("apply(" + op + ")", 1, Cases.in(Cases::heightTwo).apply(op));
        }
    }

    static void p8HeightsGoDownToOne() {
        RevisionQueries x = new RevisionQueries();
        for (int t = 1; t <= 5; t++) {
            x.num(t);
        }
        for (int height = 4; height >= 1; height--) {
            c.due("apply down to " + height, height, x.apply(MUL));
        }
        c.due("apply once more", BAD_PILE, x.apply(MUL));
        c.due("drafted()", 9, x.drafted());
    }

    static void p8OutOfRangeGoesBeforeFull() {
        for (int op : new int[] {-1, 4, MIN, MAX}) {
            Cases.leaves("apply(" + op + ")", BAD_ARG, x -> x.apply(op), Cases.FULL_AND_HIGH);
        }
    }

    static void p8OutOfRangeGoesBeforeTooLow() {
        for (int op : new int[] {-1, 4, MIN, MAX}) {
            Cases.leaves("apply(" + op + ")", BAD_ARG, x -> x.apply(op), Cases::fresh, Cases::busy, Cases::heightOne);
        }
    }

    static void p8FullGoesBeforeTooLow() {
        for (int op = 0; op < 4; op++) {
            int at = op;
            Cases.leaves("apply(" + op + ")", FULL, x -> x.apply(at), Cases.FULL_OF_HEIGHT_ONE);
        }
    }

    static void p8OutOfRangeGoesBeforeFullAndTooLow() {
        for (int op : new int[] {-1, 4, MIN, MAX}) {
            Cases.leaves("apply(" + op + ")", BAD_ARG, x -> x.apply(op), Cases.FULL_OF_HEIGHT_ONE);
        }
    }

    static void p8TheTenthToken() {
        c.due("apply at height 2", 1, Cases.in(Cases::nineOfHeightTwo).apply(ADD));
    }

    // Promise 9: "Empties the draft."

    static void p9EmptyDraft() {
        RevisionQueries x = Cases.in(Cases::busy);
        x.scrap();
        c.due("drafted()", 0, x.drafted());
        Cases.same("scrap of an empty draft", Cases.in(Cases::busy), x);
    }

    static void p9FullDrafts() {
        for (Cases.State full : Cases.ALL_FULL) {
            RevisionQueries x = Cases.in(full);
            x.scrap();
            c.due("drafted()", 0, x.drafted());
            Cases.same("scrap of a full draft", Cases.in(Cases::busy), x);
        }
    }

    static void p9DraftWithRoom() {
        RevisionQueries x = Cases.in(Cases::heightTwo);
        x.scrap();
        Cases.same("scrap of a draft with room", Cases.in(Cases::busy), x);
    }

    static void p9TheHeightIsZeroAfterIt() {
        RevisionQueries x = Cases.in(Cases::fullOfHeightTen);
        x.scrap();
        c.due("finish(0)", BAD_PILE, x.finish(0));
        c.due("choose(0, 0)", BAD_PILE, x.choose(0, 0));
        c.due("apply(0)", BAD_PILE, x.apply(0));
        c.due("num(1)", 1, x.num(1));
        c.due("apply(0) at height 1", BAD_PILE, x.apply(0));
    }

    static void p9TenTokensHaveRoomAfterIt() {
        RevisionQueries x = Cases.in(Cases::fullOfHeightTen);
        x.scrap();
        for (int t = 1; t <= 10; t++) {
            c.due("input, token " + t, t, x.input(0));
        }
        c.due("input, token 11", FULL, x.input(0));
    }

    static void p9TwiceIsAsOnce() {
        RevisionQueries x = Cases.in(Cases::heightTwo);
        x.scrap();
        x.scrap();
        Cases.same("scrap twice", Cases.in(Cases::busy), x);
    }

    // Promise 10: "The number of tokens of the draft."

    static void p10EmptyDraft() {
        Cases.leaves("drafted()", 0, x -> x.drafted(), Cases::fresh, Cases::busy);
    }

    static void p10FullDrafts() {
        Cases.leaves("drafted()", 10, x -> x.drafted(), Cases.ALL_FULL);
    }

    static void p10NeitherEmptyNorFull() {
        Cases.leaves("drafted()", 1, x -> x.drafted(), Cases::heightOne);
        Cases.leaves("drafted()", 9, x -> x.drafted(), Cases::nineOfHeightOne, Cases::nineOfHeightTwo);
    }

    static void p10StaysTenAfterARefusedToken() {
        RevisionQueries x = Cases.in(Cases::fullOfHeightTwo);
        x.num(1);
        c.due("drafted() after num", 10, x.drafted());
        x.input(1);
        c.due("drafted() after input", 10, x.drafted());
        x.query(1);
        c.due("drafted() after query", 10, x.drafted());
        x.choose(1, 1);
        c.due("drafted() after choose", 10, x.drafted());
        x.apply(1);
        c.due("drafted() after apply", 10, x.drafted());
    }

    static void p10StaysZeroAfterARefusedToken() {
        RevisionQueries x = new RevisionQueries();
        x.input(6);
        c.due("drafted() after input", 0, x.drafted());
        x.query(8);
        c.due("drafted() after query", 0, x.drafted());
        x.choose(0, 0);
        c.due("drafted() after choose", 0, x.drafted());
        x.apply(0);
        c.due("drafted() after apply", 0, x.drafted());
    }

    static void p10ZeroAfterAFullDraftIsFinished() {
        RevisionQueries x = Cases.in(Cases::fullOfHeightOne);
        x.finish(4);
        c.due("drafted()", 0, x.drafted());
    }

    static void p10CountsTokensNotNumbers() {
        RevisionQueries x = new RevisionQueries();
        x.num(1);
        x.num(2);
        x.apply(ADD);
        c.due("drafted() of num num add", 3, x.drafted());
        x.choose(0, 1);
        c.due("drafted() of num num add choose", 4, x.drafted());
    }

    // Promise 11: "Tested in this order: q not 0 to 7 answers BAD_ARG; the height is not 1 answers
    // BAD_PILE."

    static void p11TooSmall() {
        for (int q : Cases.TOO_SMALL) {
            Cases.leaves("finish(" + q + ")", BAD_ARG, x -> x.finish(q), Cases::heightOne, Cases::fullOfHeightOne);
        }
    }

    static void p11TooLarge() {
        for (int q : Cases.NO_QUERY_TOO_LARGE) {
            Cases.leaves("finish(" + q + ")", BAD_ARG, x -> x.finish(q), Cases::heightOne, Cases::fullOfHeightOne);
        }
    }

    static void p11HeightZero() {
        for (int q = 0; q < 8; q++) {
            int at = q;
            Cases.leaves("finish(" + q + ")", BAD_PILE, x -> x.finish(at), Cases::fresh, Cases::busy);
        }
    }

    static void p11HeightTwo() {
        for (int q = 0; q < 8; q++) {
            int at = q;
            Cases.leaves("finish(" + q + ")", BAD_PILE, x -> x.finish(at), Cases::heightTwo, Cases::fullOfHeightTwo);
        }
    }

    static void p11EveryHeightAboveOne() {
        for (int height = 2; height <= 10; height++) {
            int numbers = height;
            Cases.leaves("finish(2) at height " + height, BAD_PILE, x -> x.finish(2), x -> {
                for (int t = 0; t < numbers; t++) {
                    x.num(t);
                }
            });
        }
    }

    static void p11OutOfRangeGoesBeforeHeightZero() {
        for (int q : new int[] {-1, 8, MIN, MAX}) {
            Cases.leaves("finish(" + q + ")", BAD_ARG, x -> x.finish(q), Cases::fresh, Cases::busy);
        }
    }

    static void p11OutOfRangeGoesBeforeTooHigh() {
        for (int q : new int[] {-1, 8, MIN, MAX}) {
            Cases.leaves("finish(" + q + ")", BAD_ARG, x -> x.finish(q),
                    Cases::heightTwo, Cases::fullOfHeightTwo, Cases::fullOfHeightTen);
        }
    }

    static void p11ARefusedDraftCanBeGoneOnWith() {
        RevisionQueries x = Cases.in(Cases::heightTwo);
        c.due("finish(8)", BAD_ARG, x.finish(8));
        c.due("finish(0)", BAD_PILE, x.finish(0));
        c.due("drafted()", 2, x.drafted());
        c.due("value(0)", 3, x.value(0));
        c.due("sub", 1, x.apply(SUB));
        c.due("finish(0) at height 1", 3, x.finish(0));
        c.due("value(0) of the draft", -5 - 9, x.value(0));
    }

    static void p11FirstAndLastQuery() {
        RevisionQueries x = new RevisionQueries();
        x.num(5);
        c.due("finish(0)", 1, x.finish(0));
        x.num(6);
        c.due("finish(7)", 1, x.finish(7));
        int[] want = {5, 0, 0, 0, 0, 0, 0, 6};
        for (int q = 0; q < 8; q++) {
            c.due("value(" + q + ")", want[q], x.value(q));
        }
    }

    static void p11TheDraftIsEmptyAfterIt() {
        RevisionQueries x = Cases.in(Cases::fullOfHeightOne);
        c.due("finish(1)", 10, x.finish(1));
        c.due("drafted()", 0, x.drafted());
        c.due("finish(2) of the empty draft", BAD_PILE, x.finish(2));
        c.due("choose(0, 0)", BAD_PILE, x.choose(0, 0));
        for (int t = 1; t <= 10; t++) {
            c.due("num, token " + t, t, x.num(t));
        }
    }

    static void p11AFullDraftBecomesTheBodyWhole() {
        RevisionQueries x = Cases.in(Cases::fullOfHeightOne);
        c.due("finish(7)", 10, x.finish(7));
        // Input 1 is not 0, so query 0 is chosen: 3 * 2 - 40 + 5 - 11.
        c.due("value(7)", -40, x.value(7));
        c.due("needs(7)", 1 | 1 << 1 | 1 << 3 | 1 << 6 | 1 << 9, x.needs(7));
    }

    static void p11OneTokenIsTheShortestBody() {
        RevisionQueries x = Cases.in(Cases::heightOne);
        c.due("finish(4)", 1, x.finish(4));
        c.due("value(4)", 11, x.value(4));
        c.due("needs(4)", 1 << 3, x.needs(4));
    }

    static void p11NothingOfALongerBodyStays() {
        RevisionQueries x = Cases.in(Cases::fullOfHeightOne);
        x.finish(4);
        Cases.giveInput(x, 4, 0);
        c.due("value(4)", 3, x.value(4));
        c.due("needs(4)", 1, x.needs(4));
    }

    static void p11OtherBodiesStay() {
        int[] want = {3, -2, 3, 40, -520, 0, 0, 70};
        for (int q = 0; q < 8; q++) {
            RevisionQueries x = Cases.in(Cases::busy);
            // The same answer as before for what asks query q, through a longer body of it.
            x.num(want[q]);
            x.num(1);
            x.apply(MUL);
            x.finish(q);
            for (int k = 0; k < 8; k++) {
                c.due("value(" + k + ") after finish(" + q + ")", want[k], x.value(k));
            }
            c.due("circulars() after finish(" + q + ")", q == 5 ? 0 : q == 6 ? 32 : 96, x.circulars());
        }
    }

    static void p11ANewDraftLeavesTheBodyAlone() {
        RevisionQueries x = Cases.in(Cases::heightOne);
        x.finish(4);
        x.num(99);
        c.due("value(4) while drafting", 11, x.value(4));
        x.scrap();
        c.due("value(4) after scrap", 11, x.value(4));
    }

    static void p11TheDraftAloneChangesNoQuery() {
        int[] want = {3, -2, 3, 40, -520, 0, 0, 70};
        RevisionQueries x = Cases.in(Cases::fullOfHeightOne);
        for (int q = 0; q < 8; q++) {
            c.due("value(" + q + ")", want[q], x.value(q));
        }
    }

    static void p11ADraftMayNameTheQueryThatItIsFor() {
        RevisionQueries x = new RevisionQueries();
        x.query(3);
        c.due("finish(3)", 1, x.finish(3));
        c.due("circular(3)", true, x.circular(3));
    }
}
