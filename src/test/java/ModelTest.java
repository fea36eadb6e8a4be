import java.util.ArrayList;
import java.util.HashSet;
import java.util.List;
import java.util.Random;
import java.util.Set;

/**
 * Long runs of calls, from fixed seeds, on an object and on a model that follows the document's
 * words as they stand: it works off a body inside the working off of another.
 */
public final class ModelTest {
    private static final int RUNS = 3000;
    private static final int CALLS = 470;
    private static final Checks c = new Checks();

    public static void main(String[] args) {
        for (int run = 0; run < RUNS; run++) {
            run(run);
        }
        c.end();
    }

    private static void run(int seed) {
        Random r = new Random(seed);
        RevisionQueries x = new RevisionQueries();
        Model m = new Model();
        // Some runs ask for other queries seldom, so that not all of them end up circular.
        int queryShare = 1 + r.nextInt(4);
        for (int n = 0; n < CALLS; n++) {
            step("seed " + seed + ", call " + n + ": ", r, x, m, queryShare);
        }
        for (int q = 0; q < 8; q++) {
            c.due("seed " + seed + ", end: value(" + q + ")", m.value(q), x.value(q));
            c.due("seed " + seed + ", end: needs(" + q + ")", m.needs(q), x.needs(q));
            c.due("seed " + seed + ", end: circular(" + q + ")", m.circular(q), x.circular(q));
        }
        for (int i = 0; i < 6; i++) {
            c.due("seed " + seed + ", end: get(" + i + ")", m.get(i), x.get(i));
        }
    }

    private static void step(String at, Random r, RevisionQueries x, Model m, int queryShare) {
        int i = index(r, 6);
        int q = index(r, 8);
        int k = index(r, 8);
        int v = number(r);
        int op = index(r, 4);
        int pick = r.nextInt(60);
        if (pick < 5) {
            c.due(at + "set(" + i + ", " + v + ")", m.set(i, v), x.set(i, v));
        } else if (pick < 6) {
            c.due(at + "get(" + i + ")", m.get(i), x.get(i));
        } else if (pick < 10) {
            c.due(at + "num(" + v + ")", m.append("num", v, 0), x.num(v));
        } else if (pick < 17 - queryShare) {
            c.due(at + "input(" + i + ")", m.append("input", i, 0), x.input(i));
        } else if (pick < 17) {
            c.due(at + "query(" + q + ")", m.append("query", q, 0), x.query(q));
        } else if (pick < 17 + queryShare) {
            c.due(at + "choose(" + q + ", " + k + ")", m.append("choose", q, k), x.choose(q, k));
        } else if (pick < 31) {
            c.due(at + "apply(" + op + ")", m.append("apply", op, 0), x.apply(op));
        } else if (pick < 32) {
            // Mostly left out, so that long drafts come about.
            if (r.nextInt(3) == 0) {
                m.scrap();
                x.scrap();
            }
        } else if (pick < 34) {
            c.due(at + "drafted()", m.drafted(), x.drafted());
        } else if (pick < 42) {
            c.due(at + "finish(" + q + ")", m.finish(q), x.finish(q));
        } else if (pick < 46) {
            c.due(at + "value(" + q + ")", m.value(q), x.value(q));
        } else if (pick < 48) {
            c.due(at + "circular(" + q + ")", m.circular(q), x.circular(q));
        } else if (pick < 51) {
            c.due(at + "needs(" + q + ")", m.needs(q), x.needs(q));
        } else if (pick < 53) {
            c.due(at + "total()", m.total(), x.total());
        } else if (pick < 55) {
            c.due(at + "circulars()", m.circulars(), x.circulars());
        } else {
            c.due(at + "stirred(" + i + ", " + v + ")", m.stirred(i, v), x.stirred(i, v));
        }
    }

    /** Mostly 0 to bound - 1, sometimes just or far outside. */
    private static int index(Random r, int bound) {
        int[] outside = {-1, bound, bound + 1, Integer.MIN_VALUE, Integer.MAX_VALUE};
        return r.nextInt(30) == 0 ? outside[r.nextInt(outside.length)] : r.nextInt(bound);
    }

    /** Mostly small, for zeros and equal numbers to be frequent; sometimes any int. */
    private static int number(Random r) {
        int[] extremes = {Integer.MIN_VALUE, Integer.MAX_VALUE, 65536, -65536};
        int pick = r.nextInt(10);
        return pick == 0 ? extremes[r.nextInt(4)] : pick == 1 ? r.nextInt() : r.nextInt(5) - 2;
    }

    private static final class Token {
        final String kind;
        final int a;
        final int b;

        Token(String kind, int a, int b) {
            this.kind = kind;
            this.a = a;
            this.b = b;
        }
    }

    private static final class NeverEnds extends RuntimeException {
        private static final long serialVersionUID = 1L;
    }

    private static final class Model {
        private final int[] inputs = new int[6];
        private final List<List<Token>> bodies = new ArrayList<>();
        private List<Token> draft = new ArrayList<>();

        Model() {
            for (int q = 0; q < 8; q++) {
                bodies.add(List.of(new Token("num", 0, 0)));
            }
        }

        int set(int i, int v) {
            if (i < 0 || i > 5) {
                return -1;
            }
            int changed = inputs[i] == v ? 0 : 1;
            inputs[i] = v;
            return changed;
        }

        int get(int i) {
            return i < 0 || i > 5 ? 0 : inputs[i];
        }

        int append(String kind, int a, int b) {
            int bound = kind.equals("input") ? 6 : kind.equals("apply") ? 4 : 8;
            if (!kind.equals("num") && (a < 0 || a >= bound || b < 0 || b >= bound)) {
                return -1;
            }
            if (draft.size() == 10) {
                return -2;
            }
            if (kind.equals("choose") && height() == 0 || kind.equals("apply") && height() < 2) {
                return -3;
            }
            draft.add(new Token(kind, a, b));
            return height();
        }

        int height() {
            int h = 0;
            for (Token t : draft) {
                h += t.kind.equals("apply") ? -1 : t.kind.equals("choose") ? 0 : 1;
            }
            return h;
        }

        void scrap() {
            draft = new ArrayList<>();
        }

        int drafted() {
            return draft.size();
        }

        int finish(int q) {
            if (q < 0 || q > 7) {
                return -1;
            }
            if (height() != 1) {
                return -3;
            }
            bodies.set(q, draft);
            scrap();
            return bodies.get(q).size();
        }

        /** Throws NeverEnds if, inside the working off of q, q is to be worked off again. */
        private int workOff(int q, Set<Integer> under, Set<Integer> need) {
            if (!under.add(q)) {
                throw new NeverEnds();
            }
            List<Integer> pile = new ArrayList<>();
            for (Token t : bodies.get(q)) {
                if (t.kind.equals("num")) {
                    pile.add(t.a);
                } else if (t.kind.equals("input")) {
                    need.add(t.a);
                    pile.add(inputs[t.a]);
                } else if (t.kind.equals("apply")) {
                    int y = pile.remove(pile.size() - 1);
                    int n = pile.remove(pile.size() - 1);
                    pile.add(t.a == 0 ? n + y : t.a == 1 ? n - y : t.a == 2 ? n * y : n < y ? 1 : 0);
                } else {
                    boolean first = t.kind.equals("query") || pile.remove(pile.size() - 1) != 0;
                    int k = first ? t.a : t.b;
                    need.add(6 + k);
                    pile.add(workOff(k, under, need));
                }
            }
            under.remove(q);
            return pile.get(0);
        }

        boolean circular(int q) {
            if (q < 0 || q > 7) {
                return false;
            }
            try {
                workOff(q, new HashSet<>(), new HashSet<>());
                return false;
            } catch (NeverEnds e) {
                return true;
            }
        }

        int value(int q) {
            return q < 0 || q > 7 || circular(q) ? 0 : workOff(q, new HashSet<>(), new HashSet<>());
        }

        int needs(int q) {
            if (q < 0 || q > 7) {
                return -1;
            }
            if (circular(q)) {
                return -4;
            }
            Set<Integer> need = new HashSet<>();
            workOff(q, new HashSet<>(), need);
            int sum = 0;
            for (int bit : need) {
                sum += 1 << bit;
            }
            return sum;
        }

        int total() {
            int sum = 0;
            for (int q = 0; q < 8; q++) {
                sum += (q + 1) * value(q);
            }
            return sum;
        }

        int circulars() {
            int sum = 0;
            for (int q = 0; q < 8; q++) {
                sum += circular(q) ? 1 << q : 0;
            }
            return sum;
        }

        int stirred(int i, int v) {
            if (i < 0 || i > 5) {
                return -1;
            }
            int kept = inputs[i];
            int count = 0;
            for (int q = 0; q < 8; q++) {
                boolean circularNow = circular(q);
                int valueNow = value(q);
                inputs[i] = v;
                count += circular(q) != circularNow || value(q) != valueNow ? 1 : 0;
                inputs[i] = kept;
            }
            return count;
        }
    }
}
