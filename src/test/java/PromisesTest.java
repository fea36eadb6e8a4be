/** Each promise of the document: ordinary inputs, the edges that it names, and wrong inputs. */
public final class PromisesTest {
    private static final int MIN = Integer.MIN_VALUE;
    private static final int MAX = Integer.MAX_VALUE;
    private static final int ADD = 0;
    private static final int SUB = 1;
    private static final int MUL = 2;
    private static final int LESS = 3;
    private static final int BAD_ARG = -1;
    private static final int FULL = -2;
    private static final int BAD_PILE = -3;
    private static final int CIRCULAR = -4;
    private static final int[] NO_INPUT = {-1, 6, 7, MIN, MAX};
    private static final int[] NO_QUERY = {-1, 8, 9, MIN, MAX};
    private static final Checks c = new Checks();

    public static void main(String[] args) {
        constants();
        newObject();
        set();
        get();
        num();
        input();
        query();
        choose();
        apply();
        scrap();
        drafted();
        finish();
        value();
        valueIsUpToDate();
        circular();
        circularByChoice();
        needs();
        needsByChoice();
        total();
        circulars();
        stirred();
        stirredChangesNothing();
        objectsAreApart();
        c.end();
    }

    private static void constants() {
        c.due("BAD_ARG", -1, RevisionQueries.BAD_ARG);
        c.due("FULL", -2, RevisionQueries.FULL);
        c.due("BAD_PILE", -3, RevisionQueries.BAD_PILE);
        c.due("CIRCULAR", -4, RevisionQueries.CIRCULAR);
    }

    private static void newObject() {
        RevisionQueries x = new RevisionQueries();
        for (int i = 0; i < 6; i++) {
            c.due("1: get(" + i + ")", 0, x.get(i));
        }
        for (int q = 0; q < 8; q++) {
            c.due("1: value(" + q + ")", 0, x.value(q));
            c.due("1: circular(" + q + ")", false, x.circular(q));
            c.due("1: needs(" + q + ")", 0, x.needs(q));
        }
        c.due("1: drafted()", 0, x.drafted());
        c.due("1: total()", 0, x.total());
        c.due("1: circulars()", 0, x.circulars());
        c.due("1: stirred(0, 5)", 0, x.stirred(0, 5));
        c.due("1: finish(0) of the empty draft", BAD_PILE, x.finish(0));
        c.due("1: num(3), first token", 1, x.num(3));
    }

    private static void set() {
        RevisionQueries x = new RevisionQueries();
        for (int i = 0; i < 6; i++) {
            c.due("2: set to what it is", 0, x.set(i, 0));
            c.due("2: set to another", 1, x.set(i, i + 1));
            c.due("2: set again", 0, x.set(i, i + 1));
        }
        for (int i = 0; i < 6; i++) {
            c.due("2: get after set", i + 1, x.get(i));
        }
        c.due("2: set(0, MIN)", 1, x.set(0, MIN));
        c.due("2: get(0)", MIN, x.get(0));
        c.due("2: set(5, MAX)", 1, x.set(5, MAX));
        c.due("2: get(5)", MAX, x.get(5));
        c.due("2: set back to 0", 1, x.set(5, 0));
        c.due("2: get(5) after that", 0, x.get(5));
        for (int i : NO_INPUT) {
            c.due("2: set(" + i + ", 77)", BAD_ARG, x.set(i, 77));
            c.due("2: set(" + i + ", 0)", BAD_ARG, x.set(i, 0));
        }
        int[] want = {MIN, 2, 3, 4, 5, 0};
        for (int i = 0; i < 6; i++) {
            c.due("2: get after refused sets", want[i], x.get(i));
        }
    }

    private static void get() {
        RevisionQueries x = new RevisionQueries();
        for (int i = 0; i < 6; i++) {
            x.set(i, -10 - i);
        }
        for (int i = 0; i < 6; i++) {
            c.due("3: get(" + i + ")", -10 - i, x.get(i));
        }
        for (int i : NO_INPUT) {
            c.due("3: get(" + i + ")", 0, x.get(i));
        }
    }

    private static void num() {
        RevisionQueries x = new RevisionQueries();
        for (int t = 1; t <= 10; t++) {
            c.due("4: num, token " + t, t, x.num(t % 2 == 0 ? MIN : MAX));
        }
        c.due("4: num on a full draft", FULL, x.num(0));
        c.due("4: drafted after that", 10, x.drafted());
        for (int n : new int[] {0, 1, -1, -4, MIN, MAX}) {
            x.scrap();
            c.due("4: num(" + n + ")", 1, x.num(n));
            x.finish(3);
            c.due("4: value of num " + n, n, x.value(3));
        }
    }

    private static void input() {
        RevisionQueries x = new RevisionQueries();
        for (int i = 0; i < 6; i++) {
            x.set(i, 100 + i);
            c.due("5: input(" + i + ")", 1, x.input(i));
            x.finish(7 - i);
        }
        for (int i = 0; i < 6; i++) {
            c.due("5: value of input " + i, 100 + i, x.value(7 - i));
        }
        for (int i : NO_INPUT) {
            c.due("5: input(" + i + ")", BAD_ARG, x.input(i));
        }
        c.due("5: drafted after refusals", 0, x.drafted());
        for (int t = 1; t <= 10; t++) {
            c.due("5: input, token " + t, t, x.input(t % 6));
        }
        c.due("5: input on a full draft", FULL, x.input(0));
        c.due("5: drafted when full", 10, x.drafted());
        for (int i : NO_INPUT) {
            c.due("5: BAD_ARG goes before FULL", BAD_ARG, x.input(i));
        }
    }

    private static void query() {
        RevisionQueries x = new RevisionQueries();
        for (int k = 0; k < 7; k++) {
            give(x, k, 200 + k);
        }
        for (int k = 0; k < 7; k++) {
            c.due("6: query(" + k + ")", 1, x.query(k));
            x.finish(7);
            c.due("6: value of query " + k, 200 + k, x.value(7));
        }
        c.due("6: query(7)", 1, x.query(7));
        x.finish(0);
        c.due("6: value of query 7", 206, x.value(0));
        for (int k : NO_QUERY) {
            c.due("6: query(" + k + ")", BAD_ARG, x.query(k));
        }
        c.due("6: drafted after refusals", 0, x.drafted());
        for (int t = 1; t <= 10; t++) {
            c.due("6: query, token " + t, t, x.query(t % 8));
        }
        c.due("6: query on a full draft", FULL, x.query(0));
        c.due("6: drafted when full", 10, x.drafted());
        for (int k : NO_QUERY) {
            c.due("6: BAD_ARG goes before FULL", BAD_ARG, x.query(k));
        }
    }

    private static void choose() {
        RevisionQueries x = new RevisionQueries();
        c.due("7: choose on an empty draft", BAD_PILE, x.choose(1, 2));
        for (int k : NO_QUERY) {
            c.due("7: BAD_ARG goes before BAD_PILE", BAD_ARG, x.choose(k, 0));
            c.due("7: BAD_ARG goes before BAD_PILE", BAD_ARG, x.choose(0, k));
        }
        c.due("7: drafted after refusals", 0, x.drafted());
        give(x, 1, 11);
        give(x, 2, 22);
        for (int top : new int[] {1, -1, 2, 256, MIN, MAX}) {
            x.num(top);
            c.due("7: choose keeps the height", 1, x.choose(1, 2));
            x.finish(0);
            c.due("7: choose with " + top, 11, x.value(0));
        }
        x.num(0);
        x.choose(1, 2);
        x.finish(0);
        c.due("7: choose with 0", 22, x.value(0));
        x.num(5);
        x.num(0);
        c.due("7: choose at height 2", 2, x.choose(2, 1));
        c.due("7: sub after it", 1, x.apply(SUB));
        x.finish(0);
        c.due("7: choose takes the top alone", -6, x.value(0));
        x.num(0);
        for (int t = 2; t <= 10; t++) {
            c.due("7: choose, token " + t, 1, x.choose(7, 0));
        }
        c.due("7: choose on a full draft", FULL, x.choose(0, 7));
        c.due("7: drafted when full", 10, x.drafted());
        for (int k : NO_QUERY) {
            c.due("7: BAD_ARG goes before FULL", BAD_ARG, x.choose(k, 7));
            c.due("7: BAD_ARG goes before FULL", BAD_ARG, x.choose(7, k));
        }
    }

    private static void apply() {
        RevisionQueries x = new RevisionQueries();
        for (int op = 0; op < 4; op++) {
            c.due("8: apply(" + op + ") at height 0", BAD_PILE, x.apply(op));
        }
        x.num(1);
        for (int op = 0; op < 4; op++) {
            c.due("8: apply(" + op + ") at height 1", BAD_PILE, x.apply(op));
        }
        for (int op : new int[] {-1, 4, 5, MIN, MAX}) {
            c.due("8: BAD_ARG goes before BAD_PILE", BAD_ARG, x.apply(op));
        }
        c.due("8: drafted after refusals", 1, x.drafted());
        x.scrap();
        int[] some = {0, 1, -1, 2, 7, -9, 46341, 65536, MIN, MAX};
        for (int a : some) {
            for (int b : some) {
                RevisionQueries y = new RevisionQueries();
                c.due("8: " + a + " add " + b, a + b, worked(y, a, b, ADD));
                c.due("8: " + a + " sub " + b, a - b, worked(y, a, b, SUB));
                c.due("8: " + a + " mul " + b, a * b, worked(y, a, b, MUL));
                c.due("8: " + a + " less " + b, a < b ? 1 : 0, worked(y, a, b, LESS));
            }
        }
        for (int t = 1; t <= 5; t++) {
            x.num(t);
        }
        for (int h = 4; h >= 1; h--) {
            c.due("8: apply down to " + h, h, x.apply(SUB));
        }
        x.input(0);
        c.due("8: drafted at height 2", 10, x.drafted());
        c.due("8: apply on a full draft", FULL, x.apply(ADD));
        x.scrap();
        x.num(0);
        for (int t = 2; t <= 10; t++) {
            x.choose(0, 0);
        }
        for (int op = 0; op < 4; op++) {
            c.due("8: FULL goes before BAD_PILE", FULL, x.apply(op));
        }
        for (int op : new int[] {-1, 4, MIN, MAX}) {
            c.due("8: BAD_ARG goes before FULL", BAD_ARG, x.apply(op));
        }
        c.due("8: drafted when full", 10, x.drafted());
    }

    private static void scrap() {
        RevisionQueries x = new RevisionQueries();
        x.scrap();
        c.due("9: drafted after scrap of nothing", 0, x.drafted());
        give(x, 4, 44);
        x.set(2, 9);
        x.num(1);
        x.num(2);
        x.scrap();
        c.due("9: drafted after scrap", 0, x.drafted());
        c.due("9: finish after scrap", BAD_PILE, x.finish(4));
        c.due("9: apply after scrap", BAD_PILE, x.apply(ADD));
        c.due("9: height starts anew", 1, x.num(3));
        c.due("9: finish", 1, x.finish(5));
        c.due("9: value of the new body", 3, x.value(5));
        c.due("9: bodies stay", 44, x.value(4));
        c.due("9: inputs stay", 9, x.get(2));
        for (int t = 0; t < 10; t++) {
            x.num(t);
        }
        x.scrap();
        c.due("9: a full draft is emptied", 1, x.num(0));
    }

    private static void drafted() {
        RevisionQueries x = new RevisionQueries();
        x.num(1);
        c.due("10: after num", 1, x.drafted());
        x.input(1);
        c.due("10: after input", 2, x.drafted());
        x.query(1);
        c.due("10: after query", 3, x.drafted());
        x.choose(1, 2);
        c.due("10: after choose", 4, x.drafted());
        x.apply(MUL);
        c.due("10: after apply", 5, x.drafted());
        x.finish(0);
        c.due("10: after a refused finish", 5, x.drafted());
        x.apply(MUL);
        c.due("10: after apply again", 6, x.drafted());
        x.value(0);
        x.total();
        x.stirred(0, 1);
        x.set(0, 1);
        c.due("10: after calls that leave the draft alone", 6, x.drafted());
        x.finish(0);
        c.due("10: after finish", 0, x.drafted());
    }

    private static void finish() {
        RevisionQueries x = new RevisionQueries();
        for (int q = 0; q < 8; q++) {
            c.due("11: finish(" + q + ") at height 0", BAD_PILE, x.finish(q));
        }
        for (int q : NO_QUERY) {
            c.due("11: BAD_ARG goes before BAD_PILE", BAD_ARG, x.finish(q));
        }
        x.num(1);
        for (int q : NO_QUERY) {
            c.due("11: finish(" + q + ")", BAD_ARG, x.finish(q));
        }
        x.num(2);
        c.due("11: finish at height 2", BAD_PILE, x.finish(0));
        c.due("11: the draft stays", 2, x.drafted());
        c.due("11: the height stays", 1, x.apply(SUB));
        c.due("11: finish", 3, x.finish(0));
        c.due("11: value", -1, x.value(0));
        c.due("11: drafted afterwards", 0, x.drafted());
        c.due("11: finish again", BAD_PILE, x.finish(0));
        c.due("11: value after a refused finish", -1, x.value(0));
        for (int t = 1; t <= 5; t++) {
            x.num(t);
        }
        for (int t = 1; t <= 4; t++) {
            x.apply(ADD);
        }
        x.choose(0, 1);
        c.due("11: finish of ten tokens", 10, x.finish(7));
        c.due("11: value of ten tokens", -1, x.value(7));
        for (int q = 0; q < 8; q++) {
            x.num(q * q);
            c.due("11: finish(" + q + ") of one token", 1, x.finish(q));
        }
        for (int q = 0; q < 8; q++) {
            c.due("11: value(" + q + ") after shorter bodies", q * q, x.value(q));
        }
    }

    private static void value() {
        RevisionQueries x = new RevisionQueries();
        x.set(0, 6);
        x.set(1, 7);
        x.input(0);
        x.input(1);
        x.num(2);
        x.apply(SUB);
        x.apply(MUL);
        x.num(4);
        x.apply(LESS);
        x.num(1);
        x.apply(ADD);
        c.due("12: finish", 9, x.finish(6));
        c.due("12: value of (6 * (7 - 2) < 4) + 1", 1, x.value(6));
        x.set(0, -1);
        c.due("12: value of (-1 * (7 - 2) < 4) + 1", 2, x.value(6));
        for (int q : NO_QUERY) {
            c.due("12: value(" + q + ")", 0, x.value(q));
        }
        // Chains in both directions of the numbers, as long as there are queries.
        RevisionQueries up = new RevisionQueries();
        RevisionQueries down = new RevisionQueries();
        up.set(3, 10);
        down.set(3, 10);
        for (int q = 0; q < 8; q++) {
            oneMoreThan(up, q, q + 1);
            oneMoreThan(down, 7 - q, 6 - q);
        }
        for (int q = 0; q < 8; q++) {
            c.due("12: value(" + q + ") of a chain upwards", 18 - q, up.value(q));
            c.due("12: value(" + q + ") of a chain downwards", 11 + q, down.value(q));
        }
        // Five numbers are the highest pile that ten tokens can bring down to one.
        for (int t = 1; t <= 5; t++) {
            x.num(t * 10);
        }
        for (int t = 1; t <= 4; t++) {
            x.apply(SUB);
        }
        c.due("12: finish of the highest pile", 9, x.finish(2));
        c.due("12: 10 - (20 - (30 - (40 - 50)))", 30, x.value(2));
    }

    private static void valueIsUpToDate() {
        RevisionQueries x = new RevisionQueries();
        x.input(4);
        x.finish(0);
        x.query(0);
        x.query(0);
        x.apply(MUL);
        x.finish(1);
        c.due("12: square of 0", 0, x.value(1));
        x.set(4, 5);
        c.due("12: after set", 25, x.value(1));
        give(x, 0, -3);
        c.due("12: after a new body", 9, x.value(1));
        x.set(4, 6);
        c.due("12: the old body is gone", 9, x.value(1));
        x.query(1);
        x.finish(0);
        c.due("12: a circular one", 0, x.value(1));
        x.input(4);
        x.finish(0);
        c.due("12: no longer circular", 36, x.value(1));
    }

    private static void circular() {
        RevisionQueries x = new RevisionQueries();
        for (int q : NO_QUERY) {
            c.due("13: circular(" + q + ")", false, x.circular(q));
        }
        x.query(2);
        x.finish(2);
        c.due("13: a query of itself", true, x.circular(2));
        c.due("13: another one", false, x.circular(1));
        c.due("13: its value", 0, x.value(2));
        x.num(0);
        x.query(2);
        x.apply(MUL);
        x.finish(1);
        c.due("13: one that needs a circular one, times 0", true, x.circular(1));
        give(x, 2, 8);
        c.due("13: mended", false, x.circular(2));
        c.due("13: the one that needs it", false, x.circular(1));
        for (int q = 0; q < 8; q++) {
            x.query((q + 1) % 8);
            x.finish(q);
        }
        for (int q = 0; q < 8; q++) {
            c.due("13: a ring of eight, " + q, true, x.circular(q));
        }
        give(x, 3, 5);
        for (int q = 0; q < 8; q++) {
            c.due("13: the ring broken, " + q, false, x.circular(q));
            c.due("13: and its value, " + q, 5, x.value(q));
        }
    }

    private static void circularByChoice() {
        RevisionQueries x = new RevisionQueries();
        x.input(0);
        x.choose(0, 1);
        x.finish(0);
        c.due("13: the circular side is not chosen", false, x.circular(0));
        x.set(0, 1);
        c.due("13: the circular side is chosen", true, x.circular(0));
        x.set(0, 0);
        c.due("13: and no longer", false, x.circular(0));
        // Two queries that name each other, of which each time at most one asks the other.
        x.input(0);
        x.choose(1, 2);
        x.finish(0);
        x.input(0);
        x.choose(3, 0);
        x.finish(1);
        give(x, 2, 22);
        give(x, 3, 33);
        c.due("13: value(0) if 0", 22, x.value(0));
        c.due("13: value(1) if 0", 22, x.value(1));
        x.set(0, 1);
        c.due("13: value(0) if 1", 33, x.value(0));
        c.due("13: value(1) if 1", 33, x.value(1));
        c.due("13: none is circular", 0, x.circulars());
        // The number that decides is itself of a circular query, and both sides are sound.
        x.query(4);
        x.choose(2, 3);
        x.finish(5);
        x.query(4);
        x.finish(4);
        c.due("13: the decision is circular", true, x.circular(5));
        // What was put on before does not matter, if the last tokens come to need a circular one.
        x.query(2);
        x.num(1);
        x.choose(4, 3);
        x.apply(ADD);
        x.finish(6);
        c.due("13: the last choice is circular", true, x.circular(6));
    }

    private static void needs() {
        RevisionQueries x = new RevisionQueries();
        for (int q : NO_QUERY) {
            c.due("14: needs(" + q + ")", BAD_ARG, x.needs(q));
        }
        for (int i = 0; i < 6; i++) {
            x.input(i);
            x.finish(i);
            c.due("14: needs of input " + i, 1 << i, x.needs(i));
        }
        for (int k = 0; k < 6; k++) {
            x.query(k);
            x.finish(7);
            c.due("14: needs of query " + k, 1 << k | 1 << (6 + k), x.needs(7));
        }
        x.query(7);
        x.finish(6);
        c.due("14: needs through two", 1 << 5 | 1 << 11 | 1 << 13, x.needs(6));
        x.query(6);
        x.query(6);
        x.apply(SUB);
        x.finish(0);
        c.due("14: each only once", 1 << 5 | 1 << 11 | 1 << 12 | 1 << 13, x.needs(0));
        x.input(2);
        x.num(0);
        x.apply(MUL);
        x.finish(1);
        c.due("14: times 0 is needed all the same", 4, x.needs(1));
        x.query(6);
        x.finish(7);
        c.due("14: needs of a circular one", CIRCULAR, x.needs(6));
        c.due("14: needs of one that needs it", CIRCULAR, x.needs(0));
        c.due("14: needs of a sound one", 4, x.needs(1));
        give(x, 7, 1);
        c.due("14: needs of a number", 0, x.needs(7));
        c.due("14: needs of what asks it", 1 << 13, x.needs(6));
    }

    private static void needsByChoice() {
        RevisionQueries x = new RevisionQueries();
        x.input(1);
        x.finish(1);
        x.input(2);
        x.finish(2);
        x.input(0);
        x.choose(1, 2);
        x.finish(0);
        c.due("14: the second side", 1 | 1 << 2 | 1 << 8, x.needs(0));
        x.set(0, -5);
        c.due("14: the first side", 1 | 1 << 1 | 1 << 7, x.needs(0));
        x.query(0);
        x.choose(3, 3);
        x.finish(4);
        c.due("14: the one that decides, too", 1 | 1 << 1 | 1 << 6 | 1 << 7 | 1 << 9, x.needs(4));
    }

    private static void total() {
        RevisionQueries x = new RevisionQueries();
        int want = 0;
        for (int q = 0; q < 8; q++) {
            int n = 1;
            for (int p = 0; p < q; p++) {
                n *= 10;
            }
            give(x, q, n);
            want += (q + 1) * n;
            c.due("15: total", want, x.total());
        }
        c.due("15: total of all", 87654321, x.total());
        x.query(3);
        x.finish(3);
        c.due("15: without a circular one", 87650321, x.total());
        for (int q = 0; q < 8; q++) {
            give(x, q, MAX);
        }
        c.due("15: wrapping", 36 * MAX, x.total());
        give(x, 0, MIN);
        c.due("15: wrapping with MIN", MIN + 35 * MAX, x.total());
        for (int q = 0; q < 8; q++) {
            x.query(0);
            x.finish(q);
        }
        c.due("15: all circular", 0, x.total());
    }

    private static void circulars() {
        RevisionQueries x = new RevisionQueries();
        int want = 0;
        for (int q = 0; q < 8; q++) {
            x.query(q);
            x.finish(q);
            want += 1 << q;
            c.due("16: circulars", want, x.circulars());
        }
        for (int q = 0; q < 8; q += 2) {
            give(x, q, q);
        }
        c.due("16: the odd ones", 170, x.circulars());
        x.query(1);
        x.finish(6);
        c.due("16: and one that needs one", 234, x.circulars());
    }

    private static void stirred() {
        RevisionQueries x = new RevisionQueries();
        for (int i : NO_INPUT) {
            c.due("17: stirred(" + i + ", 1)", BAD_ARG, x.stirred(i, 1));
        }
        for (int q = 0; q < 8; q++) {
            x.input(5);
            x.finish(q);
            c.due("17: stirred(5, 1)", q + 1, x.stirred(5, 1));
            c.due("17: stirred(5, 0)", 0, x.stirred(5, 0));
            c.due("17: stirred(4, 1)", 0, x.stirred(4, 1));
        }
        x.input(0);
        x.num(10);
        x.apply(LESS);
        x.finish(0);
        x.query(0);
        x.finish(1);
        c.due("17: the same value in the end", 0, x.stirred(0, 9));
        c.due("17: another value, and of what needs it", 2, x.stirred(0, 10));
        x = new RevisionQueries();
        x.input(0);
        x.choose(0, 1);
        x.finish(0);
        x.query(0);
        x.finish(2);
        c.due("17: would become circular, though 0 is answered", 2, x.stirred(0, 1));
        x.set(0, 1);
        c.due("17: would cease to be circular", 2, x.stirred(0, 0));
        c.due("17: would stay circular", 0, x.stirred(0, 2));
        x.set(0, 0);
        give(x, 1, 50);
        x.value(0);
        x.set(0, 1);
        c.due("17: would stay circular, with other values before", 0, x.stirred(0, -1));
        c.due("17: would cease to be circular, with the old value", 2, x.stirred(0, 0));
        x = new RevisionQueries();
        x.input(0);
        x.choose(1, 2);
        x.finish(0);
        x.input(1);
        x.finish(1);
        c.due("17: the other side, with the same value", 0, x.stirred(0, 1));
        x.set(1, 5);
        c.due("17: the other side, with another value", 1, x.stirred(0, 1));
        c.due("17: of the side that is not chosen", 1, x.stirred(1, 6));
    }

    private static void stirredChangesNothing() {
        RevisionQueries x = new RevisionQueries();
        x.set(1, 3);
        x.input(1);
        x.choose(2, 1);
        x.finish(1);
        x.input(1);
        x.num(1);
        x.apply(ADD);
        x.finish(2);
        x.num(7);
        x.num(8);
        c.due("17: stirred", 2, x.stirred(1, 0));
        c.due("17: the input stays", 3, x.get(1));
        c.due("17: the value stays", 4, x.value(1));
        c.due("17: no query has become circular", 0, x.circulars());
        c.due("17: the needs stay", 1 << 1 | 1 << 8, x.needs(1));
        c.due("17: the total stays", 20, x.total());
        c.due("17: the draft stays", 2, x.drafted());
        c.due("17: the height stays", 1, x.apply(MUL));
        c.due("17: set after it", 0, x.set(1, 3));
    }

    private static void objectsAreApart() {
        RevisionQueries x = new RevisionQueries();
        RevisionQueries y = new RevisionQueries();
        x.set(0, 1);
        give(x, 0, 5);
        x.num(1);
        c.due("1: another object's input", 0, y.get(0));
        c.due("1: another object's query", 0, y.value(0));
        c.due("1: another object's draft", 0, y.drafted());
    }

    private static void give(RevisionQueries x, int q, int n) {
        x.scrap();
        x.num(n);
        x.finish(q);
    }

    private static int worked(RevisionQueries x, int a, int b, int op) {
        x.num(a);
        x.num(b);
        x.apply(op);
        x.finish(op);
        return x.value(op);
    }

    /** Query q becomes 1 + query k, or 1 + input 3 if there is no query k. */
    private static void oneMoreThan(RevisionQueries x, int q, int k) {
        x.num(1);
        if (k < 0 || k > 7) {
            x.input(3);
        } else {
            x.query(k);
        }
        x.apply(ADD);
        x.finish(q);
    }
}
