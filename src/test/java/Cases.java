import java.lang.reflect.InvocationTargetException;
import java.lang.reflect.Method;
import java.util.ArrayList;
import java.util.Arrays;
import java.util.Comparator;
import java.util.List;

/** What the boundary tests share: running each case for itself, states to start from, and refusals. */
final class Cases {
    static final int MIN = Integer.MIN_VALUE;
    static final int MAX = Integer.MAX_VALUE;
    static final int ADD = 0;
    static final int SUB = 1;
    static final int MUL = 2;
    static final int LESS = 3;
    static final int BAD_ARG = -1;
    static final int FULL = -2;
    static final int BAD_PILE = -3;
    static final int CIRCULAR = -4;

    static final int[] TOO_SMALL = {-1, -2, -8, -256, MIN + 1, MIN};
    static final int[] NO_OP_TOO_LARGE = {4, 5, 6, 7, 256, 65536, MAX};
    static final int[] NO_INPUT_TOO_LARGE = {6, 7, 8, 256, 65536, MAX};
    static final int[] NO_QUERY_TOO_LARGE = {8, 9, 10, 256, 65536, MAX};

    static final State[] WITH_ROOM = {Cases::fresh, Cases::busy, Cases::heightOne, Cases::heightTwo};
    static final State[] FULL_OF_HEIGHT_ONE = {Cases::fullOfHeightOne};
    static final State[] FULL_AND_HIGH = {Cases::fullOfHeightTwo, Cases::fullOfHeightTen};
    static final State[] ALL_FULL = {Cases::fullOfHeightOne, Cases::fullOfHeightTwo, Cases::fullOfHeightTen};

    static final Checks c = new Checks();

    interface State {
        void make(RevisionQueries x);
    }

    interface Call {
        long on(RevisionQueries x);
    }

    private Cases() {
    }

    /** Runs every method whose name begins with "terms" or with p and the number of a promise. */
    static void runAll(Class<?> tests) {
        Method[] methods = tests.getDeclaredMethods();
        Arrays.sort(methods, Comparator.comparing(Method::getName));
        int cases = 0;
        for (Method m : methods) {
            if (m.getName().matches("(terms|p\\d+)[A-Z]\\w*")) {
                cases++;
                runOne(m);
            }
        }
        c.begin(tests.getName());
        c.holds("there are cases, that it", cases > 0);
        System.out.println(cases + " cases");
        c.end();
    }

    private static void runOne(Method m) {
        c.begin(m.getName());
        int before = c.seen();
        try {
            m.invoke(null);
        } catch (InvocationTargetException e) {
            c.holds("no throw of " + e.getCause() + ", that it", false);
        } catch (IllegalAccessException e) {
            c.holds("the case can be run, that it", false);
        }
        c.holds("the case looks at something, that it", c.seen() > before);
    }

    static RevisionQueries in(State s) {
        RevisionQueries x = new RevisionQueries();
        s.make(x);
        return x;
    }

    /** The call answers this in each of the states and changes nothing. */
    static void leaves(String what, long answer, Call call, State... states) {
        for (int s = 0; s < states.length; s++) {
            RevisionQueries x = in(states[s]);
            c.due(what + " in state " + s, answer, call.on(x));
            same(what + " in state " + s, in(states[s]), x);
        }
    }

    /** Both objects answer the same, whatever is asked; they are of no further use. */
    static void same(String what, RevisionQueries want, RevisionQueries got) {
        List<Long> a = everything(want);
        List<Long> b = everything(got);
        for (int n = 0; n < a.size() && n < b.size(); n++) {
            c.due(what + ", question " + n + " after it", a.get(n), b.get(n));
        }
        c.due(what + ", questions after it", a.size(), b.size());
    }

    private static List<Long> everything(RevisionQueries x) {
        List<Long> answers = new ArrayList<>();
        readAll(x, answers);
        // A draft can be read only through a query, so it is brought down to one number if it
        // isn't full, and then finished.
        for (int t = 0; t < 10; t++) {
            int tokens = x.finish(7);
            answers.add((long) tokens);
            if (tokens > 0) {
                break;
            }
            answers.add((long) x.apply(SUB));
        }
        readAll(x, answers);
        for (int i = 0; i < 6; i++) {
            answers.add((long) x.set(i, 1000 + i * i));
        }
        readAll(x, answers);
        answers.add((long) x.num(4));
        answers.add((long) x.finish(6));
        answers.add((long) x.value(6));
        return answers;
    }

    private static void readAll(RevisionQueries x, List<Long> answers) {
        answers.add((long) x.drafted());
        answers.add((long) x.total());
        answers.add((long) x.circulars());
        for (int i = 0; i < 6; i++) {
            answers.add((long) x.get(i));
            answers.add((long) x.stirred(i, 0));
        }
        for (int q = 0; q < 8; q++) {
            answers.add((long) x.value(q));
            answers.add((long) x.needs(q));
            answers.add(x.circular(q) ? 1L : 0L);
        }
    }

    static void fresh(RevisionQueries x) {
    }

    /** Inputs and bodies of many sorts, 5 and 6 circular; the draft is empty. */
    static void busy(RevisionQueries x) {
        int[] numbers = {3, -5, 7, 11, -13, 17};
        for (int i = 0; i < 6; i++) {
            x.set(i, numbers[i]);
        }
        giveInput(x, 0, 0);
        x.query(0);
        x.input(1);
        x.apply(ADD);
        x.finish(1);
        x.input(2);
        x.choose(0, 5);
        x.finish(2);
        give(x, 3, 40);
        x.query(3);
        x.input(4);
        x.apply(MUL);
        x.finish(4);
        giveQuery(x, 5, 5);
        giveQuery(x, 6, 5);
        give(x, 7, 70);
    }

    static void heightOne(RevisionQueries x) {
        busy(x);
        x.input(3);
    }

    static void heightTwo(RevisionQueries x) {
        busy(x);
        x.input(1);
        x.num(9);
    }

    static void fullOfHeightOne(RevisionQueries x) {
        eightOfHeightOne(x);
        x.input(3);
        x.apply(SUB);
    }

    static void fullOfHeightTwo(RevisionQueries x) {
        eightOfHeightOne(x);
        x.choose(3, 0);
        x.num(6);
    }

    static void fullOfHeightTen(RevisionQueries x) {
        busy(x);
        for (int t = 0; t < 10; t++) {
            x.num(t);
        }
    }

    static void nineOfHeightOne(RevisionQueries x) {
        eightOfHeightOne(x);
        x.choose(0, 4);
    }

    static void nineOfHeightTwo(RevisionQueries x) {
        eightOfHeightOne(x);
        x.num(6);
    }

    private static void eightOfHeightOne(RevisionQueries x) {
        busy(x);
        x.input(1);
        x.choose(0, 3);
        x.num(2);
        x.apply(MUL);
        x.query(3);
        x.apply(SUB);
        x.num(5);
        x.apply(ADD);
    }

    /** Inputs that are not 0, a ring of all queries, and a draft. */
    static void allCircular(RevisionQueries x) {
        x.set(2, 8);
        ring(x);
        x.input(2);
        x.num(1);
    }

    static void ring(RevisionQueries x) {
        for (int q = 0; q < 8; q++) {
            giveQuery(x, q, (q + 1) % 8);
        }
    }

    static void give(RevisionQueries x, int q, int n) {
        x.num(n);
        x.finish(q);
    }

    static void giveInput(RevisionQueries x, int q, int i) {
        x.input(i);
        x.finish(q);
    }

    static void giveQuery(RevisionQueries x, int q, int k) {
        x.query(k);
        x.finish(q);
    }

    /** Query q becomes query k if input i is not 0, else query m. */
    static void giveChoice(RevisionQueries x, int q, int i, int k, int m) {
        x.input(i);
        x.choose(k, m);
        x.finish(q);
    }
}
