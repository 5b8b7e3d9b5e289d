import java.util.ArrayList;
import java.util.LinkedHashMap;
import java.util.List;
import java.util.Map;
import java.util.Set;
import java.util.TreeSet;
import java.util.function.Supplier;
import java.util.function.ToLongFunction;
import java.util.stream.IntStream;

/**
 * One test for each sentence of the document that names a boundary case. A test
 * bears the sentence's words as its name, and the answers due are worked out by hand.
 */
public final class BoundaryTest {
    private static final int BAD_NODE = LineageWorlds.BAD_NODE;
    private static final int BAD_NUMBER = LineageWorlds.BAD_NUMBER;
    private static final int FULL = LineageWorlds.FULL;
    private static final int NO_FACT = LineageWorlds.NO_FACT;
    private static final int MOST_CALLS = 512;
    private static final int MOST_SHARE = 262144;
    private static final int[] NUMBERS = {1, 2, 3, 4};
    private static final int[] TERMS = {0, 1, 2, 8, 9, 10, 11, 12, 13};
    private static final int[] NO_NUMBERS = outside(NUMBERS);
    private static final int[] NO_TERMS = outside(TERMS);

    private static String sentence = "";
    private static int tests = 0;
    private static int wrong = 0;

    private static void due(String what, long got, long want) {
        if (got != want) {
            wrong++;
            System.out.println(sentence + ": " + what + " answered " + got + ", due is " + want);
        }
    }

    private static void due(String what, boolean got, boolean want) {
        due(what, got ? 1 : 0, want ? 1 : 0);
    }

    /** A test that throws has failed, and must not keep the others from being made. */
    private static void test(String words, Runnable body) {
        sentence = words;
        tests++;
        try {
            body.run();
        } catch (RuntimeException | Error e) {
            wrong++;
            System.out.println(sentence + ": threw " + e);
        }
    }

    /** Wrong values: the next ones, the farthest, and all that a lost bit would turn into good ones. */
    private static int[] outside(int[] good) {
        Set<Integer> found = new TreeSet<>(List.of(Integer.MIN_VALUE, Integer.MAX_VALUE, -1));
        for (int value : good) {
            found.addAll(List.of(value - 1, value + 1, -value, ~value));
            for (int bit = 0; bit < 32; bit++) {
                found.add(value ^ 1 << bit);
            }
        }
        for (int value : good) {
            found.remove(value);
        }
        return found.stream().mapToInt(Integer::intValue).toArray();
    }

    /** Wrong numbers of facts when there are 'count'; a shift would take 32 and more for 0 and more. */
    private static int[] noFacts(int count) {
        Set<Integer> found = new TreeSet<>(List.of(count, count + 1, 9, 31, 32, 33, 64, 256));
        for (int fact : outside(IntStream.range(0, count).toArray())) {
            found.add(fact);
        }
        return found.stream().mapToInt(Integer::intValue).toArray();
    }

    private static int edge(int a, int b, int label) {
        return a | b << 3 | label << 6;
    }

    private static int fourTo(int power) {
        int product = 1;
        for (int i = 0; i < power; i++) {
            product *= 4;
        }
        return product;
    }

    /** An edge of its own for each of the facts 0 to 8. */
    private static int ownEdge(int i) {
        return edge(i % 6, (i + i / 6) % 6, i & 1);
    }

    private static LineageWorlds ownFacts(int count, int n) {
        LineageWorlds w = new LineageWorlds();
        for (int i = 0; i < count; i++) {
            w.fact(ownEdge(i), n);
        }
        return w;
    }

    private static void askForOwn(LineageWorlds w, int i) {
        int e = ownEdge(i);
        w.ask();
        w.condition(e >> 6, 8 + (e & 7), 8 + (e >> 3 & 7));
    }

    /** So many facts, all saying the edge of label 0 from 0 to 1. */
    private static LineageWorlds sameFacts(int count, int n) {
        LineageWorlds w = new LineageWorlds();
        for (int i = 0; i < count; i++) {
            w.fact(edge(0, 1, 0), n);
        }
        return w;
    }

    /** The way 0 -0-> 1 -1-> 2 and the way 0 -0-> 3 -1-> 2; is there any? 200 of 256. */
    private static LineageWorlds twoWays() {
        LineageWorlds w = new LineageWorlds();
        w.fact(edge(0, 1, 0), 1);
        w.fact(edge(1, 2, 1), 2);
        w.fact(edge(0, 3, 0), 3);
        w.fact(edge(3, 2, 1), 4);
        w.condition(0, 8, 0);
        w.condition(1, 0, 10);
        return w;
    }

    /** The same with no room for a fact or a condition. */
    private static LineageWorlds fullTwoWays() {
        LineageWorlds w = twoWays();
        for (int i = 4; i < 9; i++) {
            w.fact(edge(5, i - 4, 1), 1 + i % 4);
        }
        w.condition(0, 1, 2);
        w.condition(1, 13, 10);
        return w;
    }

    /** All that can be found out about an object; it is used up by this. */
    private static List<Long> everything(LineageWorlds w) {
        List<Long> seen = new ArrayList<>();
        seen.add((long) w.all());
        seen.add((long) w.share());
        seen.add((long) w.fewest());
        seen.add((long) w.reasons());
        for (int i = -1; i <= 9; i++) {
            seen.add((long) w.shareWith(i));
            seen.add(w.matters(i) ? 1L : 0L);
            seen.add((long) w.likely(i, 1));
        }
        seen.add((long) w.condition(0, 0, 1));
        for (int e = 0; e < 128; e++) {
            int a = e & 7;
            int b = e >> 3 & 7;
            if (a <= 5 && b <= 5) {
                w.ask();
                w.condition(e >> 6, 8 + a, 8 + b);
                seen.add((long) w.reasons());
            }
        }
        seen.add((long) w.fact(0, 1));
        for (int i = 0; i < 10; i++) {
            seen.add((long) w.drop());
        }
        return seen;
    }

    private static void refused(String what, Supplier<LineageWorlds> made, ToLongFunction<LineageWorlds> call, int answer) {
        LineageWorlds w = made.get();
        due(what, call.applyAsLong(w), answer);
        due(what + ", the object being as before", everything(w).equals(everything(made.get())), true);
    }

    // 'What it is'

    private static void manyCalls() {
        LineageWorlds reading = twoWays();
        for (int call = 7; call <= MOST_CALLS; call++) {
            String at = "call " + call;
            switch (call % 6) {
                case 0 -> due(at + ", share", reading.share(), 200);
                case 1 -> due(at + ", all", reading.all(), 256);
                case 2 -> due(at + ", shareWith", reading.shareWith(1), 104);
                case 3 -> due(at + ", matters", reading.matters(2), true);
                case 4 -> due(at + ", fewest", reading.fewest(), 2);
                default -> due(at + ", reasons", reading.reasons(), 2);
            }
        }
        LineageWorlds adding = new LineageWorlds();
        LineageWorlds asking = new LineageWorlds();
        LineageWorlds dropping = new LineageWorlds();
        LineageWorlds turning = sameFacts(1, 4);
        for (int call = 1; call <= MOST_CALLS; call++) {
            due("fact, call " + call, adding.fact(0, 1), call <= 9 ? call - 1 : FULL);
            due("condition, call " + call, asking.condition(0, 0, 0), call <= 4 ? call : FULL);
            due("drop, call " + call, dropping.drop(), NO_FACT);
            if (call > 1) {
                due("likely, call " + call, turning.likely(0, 1 + call % 4), call == 2 ? 4 : 1 + (call - 1) % 4);
            }
        }
        LineageWorlds clearing = twoWays();
        for (int call = 7; call < MOST_CALLS; call++) {
            clearing.ask();
        }
        due("share after many ask", clearing.share(), 256);
    }

    /** All kinds of calls in turn, so that the last of them is the 512th on its object. */
    private static void mixedCalls() {
        LineageWorlds w = new LineageWorlds();
        for (int call = 1; call <= MOST_CALLS; call++) {
            mixedCall(w, call, true);
        }
        // Their answers are free, but LANGUAGE.md lets no call throw (rule 7).
        for (int call = MOST_CALLS + 1; call <= 20 * MOST_CALLS; call++) {
            mixedCall(w, call, false);
        }
    }

    private static void mixedCall(LineageWorlds w, int call, boolean isDue) {
        String at = "mixed call " + call;
        long want = 0;
        long got = 0;
        switch (call % 11) {
            case 1 -> { got = w.fact(edge(5, 5, 1), 3); want = 0; }
            case 2 -> { got = w.condition(1, 2, 2); want = 1; }
            case 3 -> { got = w.share(); want = 3; }
            case 4 -> { got = w.all(); want = 4; }
            case 5 -> { got = w.shareWith(0); want = 3; }
            case 6 -> { got = w.matters(0) ? 1 : 0; want = 1; }
            case 7 -> { got = w.fewest(); want = 1; }
            case 8 -> { got = w.reasons(); want = 1; }
            case 9 -> { got = w.likely(0, 1); want = 3; }
            case 10 -> { got = w.drop(); want = 0; }
            default -> w.ask();
        }
        if (isDue) {
            due(at, got, want);
        }
    }

    // 'Terms'

    private static void upToNineFacts() {
        LineageWorlds w = new LineageWorlds();
        for (int i = 0; i < 9; i++) {
            due("fact " + i, w.fact(ownEdge(i), 2), i);
        }
        for (int i = 0; i < 9; i++) {
            askForOwn(w, i);
            due("share by fact " + i, w.share(), MOST_SHARE / 2);
            due("reasons by fact " + i, w.reasons(), 1);
            for (int j = 0; j < 9; j++) {
                due("matters(" + j + ") by fact " + i, w.matters(j), i == j);
                due("shareWith(" + j + ") by fact " + i, w.shareWith(j), i == j ? MOST_SHARE / 2 : MOST_SHARE / 4);
            }
        }
        due("a tenth", w.fact(ownEdge(0), 2), FULL);
        due("all", w.all(), MOST_SHARE);
    }

    private static void nodesAndLabels() {
        for (int a = 0; a <= 5; a++) {
            for (int b = 0; b <= 5; b++) {
                for (int label = 0; label <= 1; label++) {
                    LineageWorlds w = new LineageWorlds();
                    due("fact", w.fact(edge(a, b, label), 3), 0);
                    onlyThisEdge(w, a, b, label);
                }
            }
        }
    }

    private static void onlyThisEdge(LineageWorlds w, int a, int b, int label) {
        for (int x = 0; x <= 5; x++) {
            for (int y = 0; y <= 5; y++) {
                w.ask();
                w.condition(label, 8 + x, 8 + y);
                due("edge " + a + " " + b + ", asked " + x + " " + y, w.share(), a == x && b == y ? 3 : 0);
            }
        }
        w.ask();
        w.condition(1 - label, 8 + a, 8 + b);
        due("edge " + a + " " + b + ", asked of the other label", w.share(), 0);
    }

    private static void eachNumber() {
        for (int n : NUMBERS) {
            LineageWorlds one = sameFacts(1, n);
            one.condition(0, 8, 9);
            due("share, n " + n, one.share(), n);
            due("all, n " + n, one.all(), 4);
            for (int m : NUMBERS) {
                LineageWorlds two = sameFacts(1, n);
                two.fact(edge(2, 3, 1), m);
                two.condition(0, 8, 9);
                due("one of two, n " + n + " and " + m, two.share(), 4 * n);
                due("one of two with the other, n " + n + " and " + m, two.shareWith(1), n * m);
                two.condition(1, 10, 11);
                due("both of two, n " + n + " and " + m, two.share(), n * m);
                LineageWorlds any = sameFacts(1, n);
                any.fact(edge(0, 1, 0), m);
                any.condition(0, 8, 9);
                due("any of two, n " + n + " and " + m, any.share(), 16 - (4 - n) * (4 - m));
            }
        }
    }

    private static void weightsTogether() {
        for (int first = 0; first < 4; first++) {
            LineageWorlds w = new LineageWorlds();
            for (int count = 0; count <= 9; count++) {
                due("all with " + count, w.all(), fourTo(count));
                due("share of all worlds with " + count, w.share(), fourTo(count));
                for (int i = 0; i < count; i++) {
                    int n = NUMBERS[(first + i) % 4];
                    due("shareWith(" + i + ") of " + count, w.shareWith(i), n * fourTo(count - 1));
                }
                w.fact(ownEdge(count % 9), NUMBERS[(first + count) % 4]);
            }
            due("all after a tenth", w.all(), MOST_SHARE);
            due("share after a tenth", w.share(), MOST_SHARE);
        }
    }

    private static void valuesOfVariables() {
        for (int v = 0; v <= 2; v++) {
            for (int node = 0; node <= 5; node++) {
                int other = (node + 1) % 6;
                LineageWorlds w = new LineageWorlds();
                w.fact(edge(node, other, 0), 3);
                w.condition(0, v, 8 + other);
                due("variable " + v + " at start, node " + node, w.share(), 3);
                w.ask();
                w.condition(0, 8 + node, v);
                due("variable " + v + " at end, node " + other, w.share(), 3);
                w.ask();
                w.condition(0, v, (v + 1) % 3);
                due("variables " + v + " and the next, nodes " + node + " " + other, w.share(), 3);
                w.condition(0, (v + 1) % 3, v);
                due("one choice for all conditions", w.share(), 0);
            }
        }
        for (int node = 0; node <= 5; node++) {
            LineageWorlds loop = new LineageWorlds();
            loop.fact(edge(node, node, 1), 1);
            loop.condition(1, 0, 1);
            loop.condition(1, 1, 2);
            due("three variables, all at node " + node, loop.share(), 1);
        }
    }

    private static void upToFourConditions() {
        LineageWorlds w = new LineageWorlds();
        for (int i = 0; i < 5; i++) {
            w.fact(ownEdge(i), 1);
        }
        w.condition(0, 8, 8);
        due("share by one", w.share(), 256);
        w.condition(1, 9, 9);
        due("share by two", w.share(), 64);
        w.condition(0, 10, 10);
        due("share by three", w.share(), 16);
        due("the fourth", w.condition(1, 11, 11), 4);
        due("share by four", w.share(), 4);
        due("a fifth", w.condition(0, 12, 12), FULL);
        due("share after the fifth", w.share(), 4);
        for (int i = 0; i < 5; i++) {
            due("matters(" + i + ")", w.matters(i), i < 4);
        }
    }

    private static void withoutConditions() {
        for (int n : NUMBERS) {
            for (int count = 0; count <= 9; count++) {
                alwaysYes("new, n " + n, ownFacts(count, n), count, n);
                LineageWorlds asked = ownFacts(count, n);
                asked.condition(0, 0, 0);
                asked.ask();
                alwaysYes("asked, n " + n, asked, count, n);
            }
        }
    }

    private static void alwaysYes(String what, LineageWorlds w, int count, int n) {
        String at = what + ", " + count + " facts, ";
        due(at + "share", w.share(), fourTo(count));
        due(at + "fewest", w.fewest(), 0);
        due(at + "reasons, the empty set", w.reasons(), 1);
        for (int i = 0; i < count; i++) {
            due(at + "shareWith(" + i + ")", w.shareWith(i), n * fourTo(count - 1));
            due(at + "matters(" + i + ")", w.matters(i), false);
        }
    }

    private static Map<String, ToLongFunction<LineageWorlds>> readings() {
        Map<String, ToLongFunction<LineageWorlds>> calls = new LinkedHashMap<>();
        calls.put("share()", LineageWorlds::share);
        calls.put("all()", LineageWorlds::all);
        calls.put("fewest()", LineageWorlds::fewest);
        calls.put("reasons()", LineageWorlds::reasons);
        for (int fact : new int[] {0, 1, 2, 3, 4, 8, 9, -1, 32}) {
            calls.put("shareWith(" + fact + ")", w -> w.shareWith(fact));
            calls.put("matters(" + fact + ")", w -> w.matters(fact) ? 1 : 0);
        }
        return calls;
    }

    private static Map<String, ToLongFunction<LineageWorlds>> changes() {
        Map<String, ToLongFunction<LineageWorlds>> calls = new LinkedHashMap<>();
        calls.put("fact(0, 1)", w -> w.fact(0, 1));
        calls.put("condition(0, 0, 0)", w -> w.condition(0, 0, 0));
        calls.put("drop()", LineageWorlds::drop);
        calls.put("drop(), share()", w -> 1000000L * w.drop() + w.share());
        calls.put("ask(), share()", w -> {
            w.ask();
            return w.share();
        });
        for (int i = 0; i <= 9; i++) {
            int fact = i;
            calls.put("likely(" + i + ", 2)", w -> w.likely(fact, 2));
        }
        return calls;
    }

    /** Each call is made right after each reading call, and as the first one on an object like it. */
    private static void readingChangesNothing() {
        Map<String, ToLongFunction<LineageWorlds>> calls = readings();
        calls.putAll(changes());
        List<Supplier<LineageWorlds>> objects = List.of(
                LineageWorlds::new, BoundaryTest::twoWays, BoundaryTest::fullTwoWays);
        for (Supplier<LineageWorlds> made : objects) {
            calls.forEach((name, call) -> {
                long first = call.applyAsLong(made.get());
                readings().forEach((before, reading) -> {
                    LineageWorlds w = made.get();
                    reading.applyAsLong(w);
                    due(name + " after " + before, call.applyAsLong(w), first);
                });
            });
            LineageWorlds read = made.get();
            readings().forEach((name, reading) -> reading.applyAsLong(read));
            due("everything after all of them", everything(read).equals(everything(made.get())), true);
        }
    }

    // Promise 1

    private static void newObject() {
        due("all", new LineageWorlds().all(), 1);
        due("share", new LineageWorlds().share(), 1);
        due("fewest", new LineageWorlds().fewest(), 0);
        due("reasons", new LineageWorlds().reasons(), 1);
        due("shareWith(0)", new LineageWorlds().shareWith(0), NO_FACT);
        due("matters(0)", new LineageWorlds().matters(0), false);
        due("likely(0, 1)", new LineageWorlds().likely(0, 1), NO_FACT);
        due("drop", new LineageWorlds().drop(), NO_FACT);
        due("fact", new LineageWorlds().fact(0, 1), 0);
        due("condition", new LineageWorlds().condition(0, 0, 0), 1);
        LineageWorlds other = fullTwoWays();
        LineageWorlds fresh = new LineageWorlds();
        due("all beside another object", fresh.all(), 1);
        due("share beside another object", fresh.share(), 1);
        fresh.fact(0, 1);
        fresh.ask();
        due("facts of the other object", other.all(), MOST_SHARE);
        due("conditions of the other object", other.condition(0, 0, 0), FULL);
    }

    // Promise 2

    private static void otherBits() {
        for (int bit = 7; bit < 32; bit++) {
            for (int e : new int[] {edge(0, 0, 0), edge(5, 0, 0), edge(0, 5, 0), edge(4, 3, 1), edge(5, 5, 1)}) {
                LineageWorlds w = new LineageWorlds();
                due("edge " + e + " and bit " + bit, w.fact(e | 1 << bit, 3), 0);
                due("edge " + e + " and all bits but " + bit, w.fact(e | ~127 & ~(1 << bit), 2), 1);
                w.condition(e >> 6, 8 + (e & 7), 8 + (e >> 3 & 7));
                due("share of edge " + e + " and bit " + bit, w.share(), 14);
                due("reasons of edge " + e + " and bit " + bit, w.reasons(), 2);
            }
            due("bad edge and bit " + bit, new LineageWorlds().fact(6 | 1 << bit, 1), BAD_NODE);
        }
    }

    private static void factBadNode() {
        for (int e = 0; e < 128; e++) {
            boolean bad = (e & 7) > 5 || (e >> 3 & 7) > 5;
            int asked = e;
            due("edge " + e, new LineageWorlds().fact(e, 1), bad ? BAD_NODE : 0);
            if (bad) {
                refused("edge " + e, BoundaryTest::twoWays, w -> w.fact(asked, 1), BAD_NODE);
            }
        }
        due("edge -1", new LineageWorlds().fact(-1, 1), BAD_NODE);
    }

    private static void factBadNumber() {
        for (int n : NUMBERS) {
            due("n " + n, new LineageWorlds().fact(0, n), 0);
        }
        for (int n : NO_NUMBERS) {
            refused("n " + n, BoundaryTest::twoWays, w -> w.fact(edge(0, 1, 0), n), BAD_NUMBER);
        }
    }

    private static void factFull() {
        LineageWorlds w = new LineageWorlds();
        for (int i = 0; i < 9; i++) {
            due("fact " + i, w.fact(ownEdge(i), 1 + i % 4), i);
        }
        for (int e = 0; e < 128; e++) {
            if ((e & 7) <= 5 && (e >> 3 & 7) <= 5) {
                due("edge " + e, w.fact(e, 1 + e % 4), FULL);
            }
        }
        for (int n : NUMBERS) {
            refused("n " + n, BoundaryTest::fullTwoWays, full -> full.fact(edge(0, 1, 0), n), FULL);
        }
        due("drop", w.drop(), 8);
        due("a ninth again", w.fact(0, 1), 8);
    }

    private static void factNumber() {
        LineageWorlds w = new LineageWorlds();
        due("the first", w.fact(edge(5, 5, 1), 1), 0);
        due("a refused one", w.fact(6, 1), BAD_NODE);
        due("another refused one", w.fact(0, 0), BAD_NUMBER);
        for (int i = 1; i < 9; i++) {
            due("the next", w.fact(ownEdge(i), 4), i);
        }
        for (int left = 8; left >= 0; left--) {
            w.drop();
            due("with " + left, w.fact(0, 2), left);
            w.drop();
        }
    }

    private static void sayTheSame() {
        for (int count = 1; count <= 9; count++) {
            LineageWorlds w = sameFacts(count, 2);
            w.condition(0, 8, 9);
            due("all of " + count, w.all(), fourTo(count));
            due("share of " + count, w.share(), fourTo(count) - (1 << count));
            due("reasons of " + count, w.reasons(), count);
            due("likely of the last of " + count, w.likely(count - 1, 4), 2);
            due("share of " + count + " with a sure one", w.share(), fourTo(count));
        }
    }

    // Promise 3

    private static void likelyNoFact() {
        due("of none", new LineageWorlds().likely(0, 1), NO_FACT);
        for (int count = 0; count <= 9; count++) {
            LineageWorlds w = ownFacts(count, 3);
            for (int fact : noFacts(count)) {
                due("likely(" + fact + ") of " + count, w.likely(fact, 1), NO_FACT);
            }
            due("share of " + count, w.share(), fourTo(count));
            for (int i = 0; i < count; i++) {
                due("likely(" + i + ") of " + count, w.likely(i, 3), 3);
            }
        }
        LineageWorlds dropped = ownFacts(9, 1);
        dropped.drop();
        due("a dropped one", dropped.likely(8, 1), NO_FACT);
        for (int fact : noFacts(4)) {
            refused("likely(" + fact + ")", BoundaryTest::twoWays, w -> w.likely(fact, 2), NO_FACT);
        }
    }

    private static void likelyBadNumber() {
        for (int n : NO_NUMBERS) {
            for (int i = 0; i < 4; i++) {
                int fact = i;
                refused("likely(" + i + ", " + n + ")", BoundaryTest::twoWays, w -> w.likely(fact, n), BAD_NUMBER);
            }
        }
    }

    private static void likelyOldNumber() {
        for (int old : NUMBERS) {
            for (int n : NUMBERS) {
                LineageWorlds w = ownFacts(9, old);
                for (int i : new int[] {0, 8}) {
                    due("likely(" + i + ", " + n + ")", w.likely(i, n), old);
                    askForOwn(w, i);
                    due("share by fact " + i, w.share(), n * fourTo(8));
                    due("and back", w.likely(i, old), n);
                    due("share as before", w.share(), old * fourTo(8));
                }
                askForOwn(w, 4);
                due("share by another fact", w.share(), old * fourTo(8));
            }
        }
    }

    // Promise 4

    private static void labelWraps() {
        int[] even = {0, 2, 4, -2, 64, 256, Integer.MIN_VALUE, Integer.MAX_VALUE - 1};
        int[] odd = {1, 3, 5, -1, 65, 257, Integer.MIN_VALUE + 1, Integer.MAX_VALUE};
        for (int i = 0; i < even.length; i++) {
            due("label " + even[i], shareOfLabel(even[i]), 4);
            due("label " + odd[i], shareOfLabel(odd[i]), 12);
        }
    }

    private static int shareOfLabel(int label) {
        LineageWorlds w = new LineageWorlds();
        w.fact(edge(4, 5, 0), 1);
        w.fact(edge(4, 5, 1), 3);
        due("condition(" + label + ", 12, 13)", w.condition(label, 12, 13), 1);
        return w.share();
    }

    private static void eachTerm() {
        for (int x : TERMS) {
            for (int y : TERMS) {
                LineageWorlds w = new LineageWorlds();
                due("condition(0, " + x + ", " + y + ")", w.condition(0, x, y), 1);
                for (int a = 0; a <= 5; a++) {
                    int b = (a + 2) % 6;
                    boolean meets = (x < 8 || x - 8 == a) && (y < 8 || y - 8 == b) && (x != y);
                    w.fact(edge(a, b, 0), 3);
                    due("from " + x + " to " + y + ", edge " + a + " " + b, w.share(), meets ? 3 : 0);
                    w.drop();
                }
                boolean loop = x == y || x < 8 || y < 8;
                int node = x >= 8 ? x - 8 : y >= 8 ? y - 8 : 5;
                w.fact(edge(node, node, 0), 1);
                due("from " + x + " to " + y + ", a loop at " + node, w.share(), loop ? 1 : 0);
            }
        }
    }

    private static void conditionBadNode() {
        for (int term : NO_TERMS) {
            for (int good : TERMS) {
                refused("condition(0, " + term + ", " + good + ")", BoundaryTest::twoWays,
                        w -> w.condition(0, term, good), BAD_NODE);
                refused("condition(1, " + good + ", " + term + ")", BoundaryTest::twoWays,
                        w -> w.condition(1, good, term), BAD_NODE);
            }
            refused("condition(0, " + term + ", " + term + ")", LineageWorlds::new,
                    w -> w.condition(0, term, term), BAD_NODE);
        }
    }

    private static void conditionFull() {
        for (int x : TERMS) {
            for (int y : TERMS) {
                refused("condition(0, " + x + ", " + y + ")", BoundaryTest::fullTwoWays,
                        w -> w.condition(0, x, y), FULL);
            }
        }
        LineageWorlds w = sameFacts(1, 3);
        for (int i = 1; i <= 4; i++) {
            due("condition " + i, w.condition(0, 8, 9), i);
        }
        due("a fifth that no world meets", w.condition(1, 8, 9), FULL);
        due("share after it", w.share(), 3);
        w.ask();
        due("share after ask", w.share(), 4);
    }

    private static void conditionCount() {
        LineageWorlds w = new LineageWorlds();
        for (int i = 1; i <= 4; i++) {
            due("a refused one", w.condition(0, 3, 0), BAD_NODE);
            due("the same " + i + " times", w.condition(0, 0, 0), i);
        }
    }

    // Promise 5

    private static void askClears() {
        for (int count = 0; count <= 4; count++) {
            LineageWorlds w = ownFacts(3, 1);
            for (int i = 0; i < count; i++) {
                w.condition(1, 13, 13);
            }
            due("share with " + count, w.share(), count == 0 ? 64 : 0);
            w.ask();
            due("share after ask with " + count, w.share(), 64);
            due("fewest after ask with " + count, w.fewest(), 0);
            due("reasons after ask with " + count, w.reasons(), 1);
            due("facts after ask with " + count, w.all(), 64);
            due("n after ask with " + count, w.likely(2, 1), 1);
            w.ask();
            due("share after a second ask", w.share(), 64);
            for (int i = 1; i <= 4; i++) {
                due("room for condition " + i, w.condition(0, 8, 8), i);
            }
            due("the new conditions alone", w.share(), 16);
            due("full again", w.condition(0, 8, 8), FULL);
        }
    }

    // Promise 6

    private static void dropNone() {
        refused("drop of a new object", LineageWorlds::new, LineageWorlds::drop, NO_FACT);
        Supplier<LineageWorlds> emptied = () -> {
            LineageWorlds w = twoWays();
            for (int i = 0; i < 4; i++) {
                w.drop();
            }
            return w;
        };
        refused("drop of an emptied one", emptied, LineageWorlds::drop, NO_FACT);
        LineageWorlds w = emptied.get();
        due("drop", w.drop(), NO_FACT);
        due("drop again", w.drop(), NO_FACT);
        due("all", w.all(), 1);
        due("share, the question being as it was", w.share(), 0);
        due("the next fact", w.fact(edge(0, 1, 0), 1), 0);
        due("the next condition", w.condition(0, 8, 9), 3);
    }

    private static void dropLast() {
        LineageWorlds w = ownFacts(9, 3);
        for (int left = 8; left >= 0; left--) {
            w.drop();
            due("likely of the dropped one", w.likely(left, 1), NO_FACT);
            due("shareWith of the dropped one", w.shareWith(left), NO_FACT);
            due("matters of the dropped one", w.matters(left), false);
            askForOwn(w, left);
            due("share by the dropped one", w.share(), 0);
            for (int i = 0; i < left; i++) {
                askForOwn(w, i);
                due("share by fact " + i + " with " + left, w.share(), 3 * fourTo(left - 1));
            }
        }
        LineageWorlds again = twoWays();
        again.drop();
        due("a fact in its place", again.fact(edge(5, 5, 0), 1), 3);
        due("the place's n", again.likely(3, 1), 1);
        due("share, the old edge being gone", again.share(), 32);
    }

    private static void dropCount() {
        for (int count = 1; count <= 9; count++) {
            LineageWorlds w = ownFacts(count, 2);
            for (int left = count - 1; left >= 0; left--) {
                due("drop from " + (left + 1), w.drop(), left);
                due("all with " + left, w.all(), fourTo(left));
            }
        }
    }

    // Promise 7

    private static void greatestShare() {
        for (int n : NUMBERS) {
            LineageWorlds w = sameFacts(9, n);
            due("no conditions, n " + n, w.share(), MOST_SHARE);
            w.condition(0, 0, 1);
            int none = 1;
            for (int i = 0; i < 9; i++) {
                none *= 4 - n;
            }
            due("any of nine, n " + n, w.share(), MOST_SHARE - none);
            due("a tenth, n " + n, w.fact(edge(0, 1, 0), n), FULL);
            due("any of nine after it, n " + n, w.share(), MOST_SHARE - none);
        }
    }

    // Promise 8

    private static void allWeights() {
        int[] due = {1, 4, 16, 64, 256, 1024, 4096, 16384, 65536, 262144};
        for (int n : NUMBERS) {
            LineageWorlds w = new LineageWorlds();
            w.condition(1, 0, 0);
            for (int count = 0; count <= 9; count++) {
                due("all with " + count, w.all(), due[count]);
                w.fact(edge(0, 1, 0), n);
            }
            due("all after a tenth", w.all(), MOST_SHARE);
            for (int left = 8; left >= 0; left--) {
                w.drop();
                due("all down to " + left, w.all(), due[left]);
            }
            w.drop();
            due("all after a drop of none", w.all(), 1);
        }
    }

    // Promise 9

    private static void shareWithNoFact() {
        for (int count = 0; count <= 9; count++) {
            LineageWorlds yes = ownFacts(count, 3);
            LineageWorlds no = ownFacts(count, 3);
            no.condition(1, 8, 8);
            for (int fact : noFacts(count)) {
                due("shareWith(" + fact + ") of " + count, yes.shareWith(fact), NO_FACT);
            }
            for (int i = 0; i < count; i++) {
                due("shareWith(" + i + ") of " + count, yes.shareWith(i), 3 * fourTo(count - 1));
                due("shareWith(" + i + ") of " + count + ", no world saying yes", no.shareWith(i), 0);
            }
            due("shareWith(" + count + "), no world saying yes", no.shareWith(count), NO_FACT);
            due("shareWith(-1), no world saying yes", no.shareWith(-1), NO_FACT);
        }
        LineageWorlds sure = sameFacts(9, 4);
        sure.condition(0, 0, 1);
        due("shareWith of a sure fact", sure.shareWith(8), MOST_SHARE);
    }

    // Promise 10

    private static void mattersWithoutWeight() {
        for (int n : NUMBERS) {
            LineageWorlds w = sameFacts(9, n);
            w.condition(0, 0, 1);
            for (int i = 0; i < 9; i++) {
                due("matters(" + i + ") of nine alike, n " + n, w.matters(i), true);
            }
        }
        // Fact 1 turns the answer only in worlds without fact 0, and none of these has any weight.
        LineageWorlds sure = sameFacts(1, 4);
        sure.fact(edge(0, 1, 0), 1);
        sure.fact(edge(2, 2, 0), 4);
        sure.condition(0, 8, 9);
        due("matters beside a sure fact", sure.matters(1), true);
        due("matters of a sure fact", sure.matters(0), true);
        due("matters of a sure fact that is not asked for", sure.matters(2), false);
        LineageWorlds four = ownFacts(9, 4);
        for (int i = 0; i < 4; i++) {
            four.condition(i & 1, 8 + i, 8 + i);
        }
        for (int i = 0; i < 9; i++) {
            due("matters(" + i + ") of nine sure facts, four being asked for", four.matters(i), i < 4);
        }
    }

    private static void mattersNone() {
        for (int count = 0; count <= 9; count++) {
            LineageWorlds w = sameFacts(count, 2);
            w.condition(0, 0, 1);
            for (int fact : noFacts(count)) {
                due("matters(" + fact + ") of " + count, w.matters(fact), false);
            }
            for (int i = 0; i < count; i++) {
                due("matters(" + i + ") of " + count, w.matters(i), true);
            }
        }
        LineageWorlds dropped = sameFacts(9, 2);
        dropped.condition(0, 0, 1);
        dropped.drop();
        due("matters of a dropped one", dropped.matters(8), false);
    }

    // Promise 11

    private static void fewestOfNoWorld() {
        for (int count = 0; count <= 9; count++) {
            LineageWorlds w = sameFacts(count, 4);
            w.condition(1, 0, 1);
            due("fewest, no such label, " + count + " facts", w.fewest(), NO_FACT);
            w.ask();
            w.condition(0, 0, 0);
            due("fewest, no loop, " + count + " facts", w.fewest(), NO_FACT);
            w.ask();
            w.condition(0, 0, 1);
            due("fewest, any edge, " + count + " facts", w.fewest(), count == 0 ? NO_FACT : 1);
            w.condition(0, 1, 2);
            due("fewest, a way of two, " + count + " facts", w.fewest(), NO_FACT);
            w.ask();
            due("fewest, no conditions, " + count + " facts", w.fewest(), 0);
        }
    }

    private static void leastNumber() {
        for (int n : NUMBERS) {
            LineageWorlds w = ownFacts(9, n);
            for (int i = 0; i < 4; i++) {
                due("fewest by " + i, w.fewest(), i);
                w.condition(i & 1, 8 + i, 8 + i);
            }
            due("fewest by 4", w.fewest(), 4);
            LineageWorlds last = new LineageWorlds();
            for (int i = 0; i < 8; i++) {
                last.fact(edge(i % 5, i % 5 + 1, 0), n);
            }
            last.condition(0, 0, 1);
            last.condition(0, 1, 2);
            due("fewest before the ninth", last.fewest(), 2);
            last.fact(edge(5, 5, 0), n);
            due("fewest by the ninth alone", last.fewest(), 1);
        }
    }

    // Promise 12

    private static void noneWithOneLess() {
        for (int n : NUMBERS) {
            for (int count = 0; count <= 9; count++) {
                LineageWorlds w = sameFacts(count, n);
                due("the empty set alone, of " + count, w.reasons(), 1);
                w.condition(0, 0, 1);
                due("single facts of " + count, w.reasons(), count);
                w.condition(1, 0, 1);
                due("no world of " + count, w.reasons(), 0);
            }
            LineageWorlds sizes = ownFacts(9, n);
            for (int i = 0; i < 4; i++) {
                due("one set of size " + i, sizes.reasons(), 1);
                sizes.condition(i & 1, 8 + i, 8 + i);
            }
            due("one set of size 4", sizes.reasons(), 1);
            LineageWorlds mixed = new LineageWorlds();
            mixed.fact(edge(0, 1, 0), n);
            mixed.fact(edge(1, 2, 0), n);
            mixed.condition(0, 0, 1);
            mixed.condition(0, 1, 2);
            due("a pair", mixed.reasons(), 1);
            mixed.fact(edge(4, 4, 0), n);
            due("a pair and a single fact", mixed.reasons(), 2);
            mixed.fact(edge(1, 1, 0), n);
            due("two single facts and the pair", mixed.reasons(), 3);
            LineageWorlds most = new LineageWorlds();
            for (int i = 0; i < 9; i++) {
                most.fact(edge(i % 4, i % 4, 1), n);
            }
            for (int i = 0; i < 4; i++) {
                most.condition(1, 8 + i, 8 + i);
            }
            due("three times two times two times two", most.reasons(), 24);
        }
    }

    // Promise 13

    private static void orderOfFact() {
        for (int e : new int[] {6, 7, 6 << 3, 7 << 3, 6 | 6 << 3, 127, -1}) {
            LineageWorlds room = new LineageWorlds();
            LineageWorlds full = sameFacts(9, 2);
            for (int n : NO_NUMBERS) {
                due("room, bad node, bad number", room.fact(e, n), BAD_NODE);
                due("full, bad node, bad number", full.fact(e, n), BAD_NODE);
            }
            for (int n : NUMBERS) {
                due("room, bad node", room.fact(e, n), BAD_NODE);
                due("full, bad node", full.fact(e, n), BAD_NODE);
            }
        }
        LineageWorlds room = new LineageWorlds();
        LineageWorlds full = sameFacts(9, 2);
        for (int n : NO_NUMBERS) {
            due("room, bad number", room.fact(0, n), BAD_NUMBER);
            due("full, bad number", full.fact(0, n), BAD_NUMBER);
        }
        due("full", full.fact(0, 1), FULL);
        due("room", room.fact(0, 1), 0);
    }

    private static void orderOfLikely() {
        for (int n : NO_NUMBERS) {
            LineageWorlds w = ownFacts(9, 2);
            for (int fact : new int[] {-1, 9, 32, Integer.MIN_VALUE, Integer.MAX_VALUE}) {
                due("no fact, bad number", w.likely(fact, n), NO_FACT);
            }
            due("bad number", w.likely(8, n), BAD_NUMBER);
            due("no fact", w.likely(9, 1), NO_FACT);
            due("neither", w.likely(8, 1), 2);
            due("no facts at all, bad number", new LineageWorlds().likely(0, n), NO_FACT);
        }
    }

    private static void orderOfCondition() {
        for (int term : NO_TERMS) {
            LineageWorlds full = new LineageWorlds();
            for (int i = 0; i < 4; i++) {
                full.condition(0, 0, 1);
            }
            due("full, bad x", full.condition(0, term, 0), BAD_NODE);
            due("full, bad y", full.condition(0, 0, term), BAD_NODE);
            due("full, both bad", full.condition(0, term, term), BAD_NODE);
            due("full", full.condition(0, 0, 13), FULL);
        }
    }

    private static void testTerms() {
        test("What it is: 'at most 512 calls after it has been made', each kind", BoundaryTest::manyCalls);
        test("What it is: 'at most 512 calls after it has been made', all kinds", BoundaryTest::mixedCalls);
        test("Terms: 'There are up to nine FACTS'", BoundaryTest::upToNineFacts);
        test("Terms: 'from node a to node b (0 to 5)', 'a label (0 or 1)'", BoundaryTest::nodesAndLabels);
        test("Terms: 'n being 1, 2, 3 or 4'", BoundaryTest::eachNumber);
        test("Terms: 'all weights together are 4 to the number of facts; at most 4^9'", BoundaryTest::weightsTogether);
        test("Terms: 'the variables 0 to 2, each a node 0 to 5'", BoundaryTest::valuesOfVariables);
        test("Terms: 'A question has up to four conditions.'", BoundaryTest::upToFourConditions);
        test("Terms: 'A question without conditions is always answered yes.'", BoundaryTest::withoutConditions);
        test("Terms: 'The calls below change nothing that any call answers.'", BoundaryTest::readingChangesNothing);
    }

    private static void testChanging() {
        test("1: 'No facts; a question without conditions.'", BoundaryTest::newObject);
        test("2: 'other bits are not looked at'", BoundaryTest::otherBits);
        test("2: 'a or b above 5: BAD_NODE', 'nothing changes then'", BoundaryTest::factBadNode);
        test("2: 'n not in 1 to 4: BAD_NUMBER', 'nothing changes then'", BoundaryTest::factBadNumber);
        test("2: 'there are nine: FULL; nothing changes then'", BoundaryTest::factFull);
        test("2: 'Else answers its number, from 0.'", BoundaryTest::factNumber);
        test("2: 'Two facts may say the same.'", BoundaryTest::sayTheSame);
        test("3: 'There is none: NO_FACT', 'nothing changes then'", BoundaryTest::likelyNoFact);
        test("3: 'n not in 1 to 4: BAD_NUMBER; nothing changes then'", BoundaryTest::likelyBadNumber);
        test("3: 'Else answers the old n.'", BoundaryTest::likelyOldNumber);
        test("4: 'label & 1 from x to y'", BoundaryTest::labelWraps);
        test("4: '0 to 2 are variables and 8 to 13 the fixed nodes 0 to 5'", BoundaryTest::eachTerm);
        test("4: 'x or y neither: BAD_NODE', 'nothing changes then'", BoundaryTest::conditionBadNode);
        test("4: 'there are four: FULL; nothing changes then'", BoundaryTest::conditionFull);
        test("4: 'Else answers how many there are.'", BoundaryTest::conditionCount);
        test("5: 'The question has no conditions any more.'", BoundaryTest::askClears);
        test("6: 'There is none: NO_FACT.'", BoundaryTest::dropNone);
        test("6: 'Takes the last fact out.'", BoundaryTest::dropLast);
        test("6: 'Else answers how many are left.'", BoundaryTest::dropCount);
    }

    private static void testReading() {
        test("7: 'At most 262144.'", BoundaryTest::greatestShare);
        test("8: '4 to the number of facts'", BoundaryTest::allWeights);
        test("9: 'NO_FACT'", BoundaryTest::shareWithNoFact);
        test("10: 'weights are not looked at'", BoundaryTest::mattersWithoutWeight);
        test("10: 'false if there is none'", BoundaryTest::mattersNone);
        test("11: 'NO_FACT if no world does'", BoundaryTest::fewestOfNoWorld);
        test("11: 'The least number of true facts in a world that answers yes'", BoundaryTest::leastNumber);
        test("12: 'but none of whose sets with one fact less does'", BoundaryTest::noneWithOneLess);
        test("13: 'the tests are made in the order in which they are named', fact", BoundaryTest::orderOfFact);
        test("13: 'the tests are made in the order in which they are named', likely", BoundaryTest::orderOfLikely);
        test("13: 'the tests are made in the order in which they are named', condition", BoundaryTest::orderOfCondition);
    }

    public static void main(String[] args) {
        testTerms();
        testChanging();
        testReading();
        System.out.println(wrong == 0 ? "all " + tests + " sentences hold" : wrong + " answers are not as due");
        if (wrong != 0) {
            System.exit(1);
        }
    }
}
