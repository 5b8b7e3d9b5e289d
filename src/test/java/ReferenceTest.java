import java.util.ArrayList;
import java.util.HashSet;
import java.util.List;
import java.util.Set;

/**
 * Long runs of calls, each answer held against a slow model that follows the
 * document's terms word by word and has nothing in common with the class.
 */
public final class ReferenceTest {
    private static final int RUNS = 150;
    private static final int CALLS = 120;

    private record Fact(int a, int b, int label, int n) { }

    private record Condition(int label, int x, int y) { }

    private static final class Model {
        final List<Fact> facts = new ArrayList<>();
        final List<Condition> conditions = new ArrayList<>();

        int fact(int edge, int n) {
            int a = edge & 7;
            int b = edge >>> 3 & 7;
            if (a > 5 || b > 5) return LineageWorlds.BAD_NODE;
            if (n < 1 || n > 4) return LineageWorlds.BAD_NUMBER;
            if (facts.size() == 9) return LineageWorlds.FULL;
            facts.add(new Fact(a, b, edge >>> 6 & 1, n));
            return facts.size() - 1;
        }

        boolean has(int fact) {
            return fact >= 0 && fact < facts.size();
        }

        int likely(int fact, int n) {
            if (!has(fact)) return LineageWorlds.NO_FACT;
            if (n < 1 || n > 4) return LineageWorlds.BAD_NUMBER;
            Fact old = facts.get(fact);
            facts.set(fact, new Fact(old.a, old.b, old.label, n));
            return old.n;
        }

        static boolean isTerm(int t) {
            return t >= 0 && t <= 2 || t >= 8 && t <= 13;
        }

        int condition(int label, int x, int y) {
            if (!isTerm(x) || !isTerm(y)) return LineageWorlds.BAD_NODE;
            if (conditions.size() == 4) return LineageWorlds.FULL;
            conditions.add(new Condition(label & 1, x, y));
            return conditions.size();
        }

        int drop() {
            if (facts.isEmpty()) return LineageWorlds.NO_FACT;
            facts.remove(facts.size() - 1);
            return facts.size();
        }

        boolean isYes(Set<Integer> world) {
            for (int p = 0; p <= 5; p++) {
                for (int q = 0; q <= 5; q++) {
                    for (int r = 0; r <= 5; r++) {
                        int[] values = {p, q, r};
                        if (conditions.stream().allMatch(c -> holds(c, values, world))) return true;
                    }
                }
            }
            return false;
        }

        boolean holds(Condition c, int[] values, Set<Integer> world) {
            int from = c.x < 8 ? values[c.x] : c.x - 8;
            int to = c.y < 8 ? values[c.y] : c.y - 8;
            for (int i : world) {
                Fact f = facts.get(i);
                if (f.label == c.label && f.a == from && f.b == to) return true;
            }
            return false;
        }

        long weight(Set<Integer> world) {
            long product = 1;
            for (int i = 0; i < facts.size(); i++) {
                product *= world.contains(i) ? facts.get(i).n : 4 - facts.get(i).n;
            }
            return product;
        }

        List<Set<Integer>> worlds() {
            List<Set<Integer>> all = new ArrayList<>();
            all.add(new HashSet<>());
            for (int i = 0; i < facts.size(); i++) {
                for (Set<Integer> world : List.copyOf(all)) {
                    Set<Integer> more = new HashSet<>(world);
                    more.add(i);
                    all.add(more);
                }
            }
            return all;
        }
    }

    /** What the model says of one state, worked out once for all reading calls. */
    private static final class Reading {
        long share = 0;
        long all = 0;
        int fewest = LineageWorlds.NO_FACT;
        int reasons = 0;
        final long[] shareWith = new long[9];
        final boolean[] matters = new boolean[9];

        Reading(Model m) {
            Set<Set<Integer>> yes = new HashSet<>();
            List<Set<Integer>> worlds = m.worlds();
            for (Set<Integer> world : worlds) {
                all += m.weight(world);
                if (m.isYes(world)) yes.add(world);
            }
            for (Set<Integer> world : worlds) {
                boolean answer = yes.contains(world);
                boolean reason = answer;
                for (int i : world) {
                    Set<Integer> less = new HashSet<>(world);
                    less.remove(i);
                    if (yes.contains(less)) reason = false;
                    if (yes.contains(less) != answer) matters[i] = true;
                    if (answer) shareWith[i] += m.weight(world);
                }
                if (reason) reasons++;
                if (answer) {
                    share += m.weight(world);
                    if (fewest < 0 || world.size() < fewest) fewest = world.size();
                }
            }
        }
    }

    private static int wrong = 0;
    private static long seed = 1;

    /** A fixed sequence, so that every run of the tests makes the same calls. */
    private static int next(int bound) {
        seed = seed * 6364136223846793005L + 1442695040888963407L;
        return (int) ((seed >>> 33) % bound);
    }

    /** Now and then a value from the whole range, as no call may throw for any (LANGUAGE.md, rule 7). */
    private static boolean goesFar() {
        return next(40) == 0;
    }

    private static int farValue() {
        next(2);
        return (int) (seed >>> 32);
    }

    private static void due(String what, long got, long want) {
        if (got != want) {
            wrong++;
            System.out.println(what + " answered " + got + ", due is " + want);
        }
    }

    private static int someFact() {
        return goesFar() ? farValue() : next(12) - 1;
    }

    private static int someNumber() {
        if (goesFar()) return farValue();
        return next(12) == 0 ? next(9) - 2 : 1 + next(4);
    }

    private static int someTerm(int nodes) {
        if (goesFar()) return farValue();
        if (next(25) == 0) return next(20) - 3;
        return next(3) > 0 ? next(3) : 8 + next(nodes);
    }

    private static int someEdge(int nodes, int labels) {
        if (goesFar()) return farValue();
        if (next(15) == 0) return next(256) - 64;
        return next(nodes) | next(nodes) << 3 | next(labels) << 6 | next(2) << 7;
    }

    private static void change(String at, LineageWorlds w, Model m, int nodes, int labels) {
        int kind = next(20);
        if (kind < 8) {
            int edge = someEdge(nodes, labels);
            int n = someNumber();
            due(at + "fact(" + edge + ", " + n + ")", w.fact(edge, n), m.fact(edge, n));
        } else if (kind < 10) {
            int fact = someFact();
            int n = someNumber();
            due(at + "likely(" + fact + ", " + n + ")", w.likely(fact, n), m.likely(fact, n));
        } else if (kind < 16) {
            int label = goesFar() ? farValue() : next(labels) + 2 * (next(5) - 2);
            int x = someTerm(nodes);
            int y = someTerm(nodes);
            due(at + "condition(" + label + ", " + x + ", " + y + ")", w.condition(label, x, y), m.condition(label, x, y));
        } else if (kind < 18) {
            w.ask();
            m.conditions.clear();
        } else {
            due(at + "drop()", w.drop(), m.drop());
        }
    }

    private static void read(String at, LineageWorlds w, Model m) {
        Reading r = new Reading(m);
        due(at + "share()", w.share(), r.share);
        due(at + "all()", w.all(), r.all);
        due(at + "fewest()", w.fewest(), r.fewest);
        due(at + "reasons()", w.reasons(), r.reasons);
        for (int i = -1; i <= 9; i++) {
            due(at + "shareWith(" + i + ")", w.shareWith(i), m.has(i) ? r.shareWith[i] : LineageWorlds.NO_FACT);
            due(at + "matters(" + i + ")", w.matters(i) ? 1 : 0, m.has(i) && r.matters[i] ? 1 : 0);
        }
        int far = farValue();
        due(at + "shareWith(" + far + ")", w.shareWith(far), m.has(far) ? r.shareWith[far] : LineageWorlds.NO_FACT);
        due(at + "matters(" + far + ")", w.matters(far) ? 1 : 0, m.has(far) && r.matters[far] ? 1 : 0);
    }

    public static void main(String[] args) {
        for (int run = 0; run < RUNS; run++) {
            LineageWorlds w = new LineageWorlds();
            Model m = new Model();
            int nodes = 1 + next(6);
            int labels = 1 + next(2);
            for (int call = 0; call < CALLS; call++) {
                String at = "run " + run + ", call " + call + ": ";
                change(at, w, m, nodes, labels);
                if (call % 12 == 11) read(at, w, m);
            }
        }
        System.out.println(wrong == 0 ? "the class agrees with the model" : wrong + " answers are not as due");
        if (wrong != 0) System.exit(1);
    }
}
