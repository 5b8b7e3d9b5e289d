/** Each promise with answers worked out by hand: ordinary inputs, edges, wrong inputs. */
public final class PromisesTest {
    private static final int BAD_NODE = LineageWorlds.BAD_NODE;
    private static final int BAD_NUMBER = LineageWorlds.BAD_NUMBER;
    private static final int FULL = LineageWorlds.FULL;
    private static final int NO_FACT = LineageWorlds.NO_FACT;
    private static final int[] NO_NUMBERS = {0, 5, -1, 6, -4, 260, Integer.MIN_VALUE, Integer.MAX_VALUE};
    private static final int[] NO_TERMS = {-1, 3, 4, 5, 6, 7, 14, 15, 16, -8, 264, Integer.MIN_VALUE, Integer.MAX_VALUE};
    private static final int[] FAR_FACTS = {-1, 9, 10, 31, 32, 33, -32, Integer.MIN_VALUE, Integer.MAX_VALUE};

    private static int wrong = 0;

    private static void due(String what, long got, long want) {
        if (got != want) {
            wrong++;
            System.out.println(what + ": answered " + got + ", due is " + want);
        }
    }

    private static void due(String what, boolean got, boolean want) {
        due(what, got ? 1 : 0, want ? 1 : 0);
    }

    private static int edge(int a, int b, int label) {
        return a | b << 3 | label << 6;
    }

    /** Nine facts, all saying the edge of label 0 from 0 to 1, all with n. */
    private static LineageWorlds nineOf(int n) {
        LineageWorlds w = new LineageWorlds();
        for (int i = 0; i < 9; i++) {
            due("nineOf, fact " + i, w.fact(edge(0, 1, 0), n), i);
        }
        return w;
    }

    /** The chain 0 -0-> 1 -1-> 2, and a second way 0 -0-> 3 -1-> 2. */
    private static LineageWorlds twoWays() {
        LineageWorlds w = new LineageWorlds();
        w.fact(edge(0, 1, 0), 1);
        w.fact(edge(1, 2, 1), 2);
        w.fact(edge(0, 3, 0), 3);
        w.fact(edge(3, 2, 1), 4);
        w.condition(0, 8, 0);
        w.condition(1, 0, 10);
        return w;
    }

    private static void constants() {
        due("BAD_NODE", BAD_NODE, -1);
        due("BAD_NUMBER", BAD_NUMBER, -2);
        due("FULL", FULL, -3);
        due("NO_FACT", NO_FACT, -4);
    }

    private static void promise1() {
        due("1 all", new LineageWorlds().all(), 1);
        due("1 share", new LineageWorlds().share(), 1);
        due("1 fewest", new LineageWorlds().fewest(), 0);
        due("1 reasons", new LineageWorlds().reasons(), 1);
        due("1 matters", new LineageWorlds().matters(0), false);
        due("1 shareWith", new LineageWorlds().shareWith(0), NO_FACT);
        due("1 likely", new LineageWorlds().likely(0, 1), NO_FACT);
        due("1 drop", new LineageWorlds().drop(), NO_FACT);
        due("1 fact", new LineageWorlds().fact(0, 1), 0);
        due("1 condition", new LineageWorlds().condition(0, 0, 0), 1);
        LineageWorlds one = new LineageWorlds();
        LineageWorlds other = new LineageWorlds();
        one.fact(0, 1);
        one.condition(0, 0, 0);
        due("1 objects do not share facts", other.all(), 1);
        due("1 objects do not share questions", other.share(), 1);
    }

    private static void promise2Nodes() {
        for (int a = 0; a < 8; a++) {
            for (int b = 0; b < 8; b++) {
                for (int label = 0; label < 2; label++) {
                    LineageWorlds w = new LineageWorlds();
                    boolean good = a <= 5 && b <= 5;
                    String what = "2 edge " + a + " " + b + " " + label;
                    due(what, w.fact(edge(a, b, label), 3), good ? 0 : BAD_NODE);
                    due(what + " all", w.all(), good ? 4 : 1);
                    if (good) {
                        due(what + " its condition", w.condition(label, 8 + a, 8 + b), 1);
                        due(what + " is said", w.share(), 3);
                        w.ask();
                        w.condition(1 - label, 8 + a, 8 + b);
                        due(what + " other label", w.share(), 0);
                        w.ask();
                        w.condition(label, 8 + (a + 1) % 6, 8 + b);
                        due(what + " other start", w.share(), 0);
                        w.ask();
                        w.condition(label, 8 + a, 8 + (b + 1) % 6);
                        due(what + " other end", w.share(), 0);
                    }
                }
            }
        }
    }

    private static void promise2() {
        LineageWorlds w = new LineageWorlds();
        due("2 high bits", w.fact(edge(4, 5, 1) | 0x80, 1), 0);
        due("2 more high bits", w.fact(edge(4, 5, 1) | 0xFFFFFF80, 1), 1);
        due("2 the sign bit", w.fact(edge(4, 5, 1) | 0x80000000, 1), 2);
        w.condition(1, 12, 13);
        due("2 high bits are not looked at", w.reasons(), 3);
        due("2 all bits", w.fact(-1, 1), BAD_NODE);
        due("2 nothing of it stays", w.all(), 64);

        for (int n : NO_NUMBERS) {
            due("2 n " + n, w.fact(0, n), BAD_NUMBER);
        }
        due("2 nothing of them stays", w.all(), 64);
        for (int n = 1; n <= 4; n++) {
            due("2 n " + n, w.fact(0, n), 2 + n);
            due("2 n " + n + " is kept", w.likely(2 + n, n), n);
        }
        due("2 eighth", w.fact(0, 1), 7);
        due("2 ninth", w.fact(0, 1), 8);
        int before = w.share();
        due("2 tenth", w.fact(edge(4, 5, 1), 4), FULL);
        due("2 after the tenth, all", w.all(), 262144);
        due("2 after the tenth, share", w.share(), before);
        due("2 after the tenth, reasons", w.reasons(), 3);

        LineageWorlds same = new LineageWorlds();
        same.fact(edge(2, 2, 0), 2);
        due("2 the same again", same.fact(edge(2, 2, 0), 2), 1);
        same.condition(0, 0, 0);
        due("2 both count", same.share(), 12);
    }

    private static void promise3() {
        LineageWorlds w = twoWays();
        for (int i = 0; i < 4; i++) {
            due("3 old n of " + i, w.likely(i, 4 - i), i + 1);
            due("3 again " + i, w.likely(i, 2), 4 - i);
        }
        // Two ways of two facts, each fact even: 1 - (3/4)^2 of 256.
        due("3 share", w.share(), 112);
        for (int n : NO_NUMBERS) {
            due("3 n " + n, w.likely(1, n), BAD_NUMBER);
        }
        due("3 no fact 4", w.likely(4, 1), NO_FACT);
        for (int fact : FAR_FACTS) {
            due("3 no fact " + fact, w.likely(fact, 1), NO_FACT);
        }
        due("3 nothing changed, share", w.share(), 112);
        due("3 nothing changed, n", w.likely(1, 1), 2);
        due("3 all is as ever", w.all(), 256);
        w.drop();
        due("3 a dropped fact", w.likely(3, 1), NO_FACT);
    }

    private static void promise4() {
        LineageWorlds w = new LineageWorlds();
        for (int term : NO_TERMS) {
            due("4 x " + term, w.condition(0, term, 0), BAD_NODE);
            due("4 y " + term, w.condition(0, 0, term), BAD_NODE);
            due("4 both " + term, w.condition(0, term, term), BAD_NODE);
        }
        due("4 nothing of them stays", w.share(), 1);
        for (int term = 0; term <= 13; term++) {
            if (term <= 2 || term >= 8) {
                w.ask();
                due("4 x " + term, w.condition(0, term, 0), 1);
                due("4 y " + term, w.condition(1, 0, term), 2);
            }
        }
        w.ask();
        for (int i = 1; i <= 4; i++) {
            due("4 condition " + i, w.condition(0, 0, 1), i);
        }
        w.fact(edge(0, 1, 0), 1);
        due("4 a fifth", w.condition(1, 8, 8), FULL);
        due("4 nothing of it stays", w.share(), 1);

        int[] labels = {0, 1, 2, 3, -1, -2, Integer.MIN_VALUE, Integer.MAX_VALUE};
        for (int label : labels) {
            LineageWorlds one = new LineageWorlds();
            one.fact(edge(0, 1, 0), 1);
            one.fact(edge(0, 1, 1), 3);
            due("4 label " + label, one.condition(label, 8, 9), 1);
            due("4 label & 1 of " + label, one.share(), (label & 1) == 0 ? 4 : 12);
        }
    }

    /** What a condition says of its variables: shared, apart, or fixed. */
    private static void promise4Variables() {
        for (int v = 0; v < 3; v++) {
            LineageWorlds loop = new LineageWorlds();
            loop.fact(edge(1, 2, 0), 4);
            loop.condition(0, v, v);
            due("4 no loop, variable " + v, loop.share(), 0);
            loop.fact(edge(5, 5, 0), 3);
            due("4 a loop, variable " + v, loop.share(), 12);

            int u = (v + 1) % 3;
            LineageWorlds pair = new LineageWorlds();
            pair.fact(edge(1, 2, 0), 4);
            pair.condition(0, v, u);
            due("4 variables " + v + " " + u, pair.share(), 4);
            pair.condition(0, u, v);
            due("4 and back", pair.share(), 0);
            pair.fact(edge(2, 1, 0), 3);
            due("4 and back again", pair.share(), 12);
        }
        LineageWorlds equal = new LineageWorlds();
        equal.fact(edge(3, 3, 1), 2);
        equal.condition(1, 0, 1);
        equal.condition(1, 1, 2);
        due("4 variables may have one value", equal.share(), 2);

        for (int node = 0; node < 6; node++) {
            LineageWorlds whole = new LineageWorlds();
            whole.fact(edge(node, node, 0), 3);
            whole.condition(0, 0, 1);
            whole.condition(0, 1, 2);
            due("4 all three variables at node " + node, whole.share(), 3);
        }

        LineageWorlds triangle = new LineageWorlds();
        triangle.fact(edge(5, 4, 0), 1);
        triangle.fact(edge(4, 0, 0), 2);
        triangle.fact(edge(0, 5, 0), 3);
        triangle.condition(0, 0, 1);
        triangle.condition(0, 1, 2);
        triangle.condition(0, 2, 0);
        due("4 three variables", triangle.share(), 6);
        due("4 a fourth condition", triangle.condition(1, 0, 9), 4);
        due("4 it has to hold too", triangle.share(), 0);
        triangle.fact(edge(5, 1, 1), 4);
        due("4 it holds now, the others being turned to fit", triangle.share(), 24);
    }

    private static void promise5() {
        LineageWorlds w = twoWays();
        due("5 with conditions", w.reasons(), 2);
        w.ask();
        due("5 share", w.share(), 256);
        due("5 fewest", w.fewest(), 0);
        due("5 reasons", w.reasons(), 1);
        due("5 all", w.all(), 256);
        due("5 the facts stay", w.likely(3, 4), 4);
        due("5 the count starts anew", w.condition(0, 8, 9), 1);
        due("5 the new one alone", w.share(), 64);
        w.ask();
        w.ask();
        due("5 twice", w.share(), 256);
        for (int i = 0; i < 4; i++) {
            w.condition(1, 8, 8);
        }
        due("5 full", w.condition(1, 8, 8), FULL);
        w.ask();
        due("5 no more full", w.condition(1, 8, 8), 1);
    }

    private static void promise6() {
        LineageWorlds w = twoWays();
        due("6 drop", w.drop(), 3);
        due("6 the last one went", w.reasons(), 1);
        due("6 share", w.share(), 8);
        due("6 all", w.all(), 64);
        due("6 shareWith", w.shareWith(3), NO_FACT);
        due("6 matters", w.matters(3), false);
        due("6 its number is free", w.fact(edge(3, 2, 1), 2), 3);
        due("6 with its own n", w.likely(3, 4), 2);
        due("6 the question stays", w.reasons(), 2);
        for (int left = 3; left >= 0; left--) {
            due("6 down to " + left, w.drop(), left);
        }
        due("6 none", w.drop(), NO_FACT);
        due("6 none again", w.drop(), NO_FACT);
        due("6 all of none", w.all(), 1);
        due("6 share of none", w.share(), 0);
        due("6 first again", w.fact(0, 1), 0);

        LineageWorlds nine = nineOf(1);
        due("6 full", nine.fact(0, 1), FULL);
        due("6 drop one of nine", nine.drop(), 8);
        due("6 no more full", nine.fact(0, 1), 8);
    }

    private static void promise7() {
        LineageWorlds w = twoWays();
        // 1/4 * 2/4 by the one way, 3/4 * 4/4 by the other: 1 - 7/8 * 1/4.
        due("7 two ways", w.share(), 200);
        due("7 the same again", w.share(), 200);

        for (int n = 1; n <= 4; n++) {
            LineageWorlds nine = nineOf(n);
            due("7 no conditions, n " + n, nine.share(), 262144);
            nine.condition(0, 0, 1);
            int none = 1;
            for (int i = 0; i < 9; i++) {
                none *= 4 - n;
            }
            due("7 any of nine, n " + n, nine.share(), 262144 - none);
            nine.condition(1, 0, 1);
            due("7 no such label, n " + n, nine.share(), 0);
        }

        LineageWorlds empty = new LineageWorlds();
        empty.condition(0, 0, 1);
        due("7 no facts", empty.share(), 0);

        LineageWorlds oneForTwo = new LineageWorlds();
        oneForTwo.fact(edge(0, 0, 0), 3);
        oneForTwo.condition(0, 0, 1);
        oneForTwo.condition(0, 8, 2);
        due("7 one fact may serve two conditions", oneForTwo.share(), 3);
    }

    private static void promise8() {
        LineageWorlds w = new LineageWorlds();
        int want = 1;
        for (int i = 0; i < 9; i++) {
            due("8 with " + i, w.all(), want);
            w.fact(edge(i % 6, 0, 0), 1 + i % 4);
            want *= 4;
        }
        due("8 with nine", w.all(), 262144);
        w.condition(1, 0, 0);
        due("8 the question is nothing to it", w.all(), 262144);
        w.likely(0, 4);
        due("8 nor is n", w.all(), 262144);
        w.drop();
        due("8 after drop", w.all(), 65536);
    }

    private static void promise9() {
        LineageWorlds w = twoWays();
        // Of 256: fact 0 true is 64; then yes is 1 - (1 - 2/4) * (1 - 3/4) of it.
        due("9 fact 0", w.shareWith(0), 56);
        due("9 fact 1", w.shareWith(1), 104);
        due("9 fact 2", w.shareWith(2), 192);
        due("9 fact 3", w.shareWith(3), 200);
        due("9 fact 4", w.shareWith(4), NO_FACT);
        for (int fact : FAR_FACTS) {
            due("9 fact " + fact, w.shareWith(fact), NO_FACT);
        }
        w.ask();
        due("9 no conditions", w.shareWith(2), 192);
        w.condition(1, 8, 8);
        due("9 no world", w.shareWith(2), 0);
        due("9 no world, no fact", w.shareWith(4), NO_FACT);

        LineageWorlds nine = nineOf(3);
        nine.condition(0, 8, 9);
        due("9 the ninth", nine.shareWith(8), 196608);
    }

    private static void promise10() {
        LineageWorlds w = twoWays();
        w.fact(edge(5, 5, 0), 2);
        for (int i = 0; i < 4; i++) {
            due("10 fact " + i, w.matters(i), true);
        }
        due("10 an idle fact", w.matters(4), false);
        due("10 none", w.matters(5), false);
        for (int fact : FAR_FACTS) {
            due("10 fact " + fact, w.matters(fact), false);
        }
        w.ask();
        due("10 no conditions", w.matters(0), false);
        w.condition(0, 8, 9);
        w.condition(1, 8, 9);
        due("10 no world says yes", w.matters(0), false);

        LineageWorlds sure = nineOf(4);
        sure.condition(0, 0, 1);
        for (int i = 0; i < 9; i++) {
            due("10 weights are not looked at, " + i, sure.matters(i), true);
        }

        LineageWorlds covered = new LineageWorlds();
        covered.fact(edge(0, 0, 0), 1);
        covered.fact(edge(0, 1, 0), 1);
        covered.condition(0, 8, 8);
        covered.condition(0, 8, 0);
        due("10 the loop", covered.matters(0), true);
        due("10 what the loop does as well", covered.matters(1), false);
    }

    private static void promise11() {
        LineageWorlds w = twoWays();
        due("11 two ways", w.fewest(), 2);
        w.ask();
        due("11 no conditions", w.fewest(), 0);
        w.condition(0, 9, 8);
        due("11 no world", w.fewest(), NO_FACT);

        LineageWorlds sure = nineOf(4);
        sure.condition(0, 0, 1);
        due("11 worlds without weight count", sure.fewest(), 1);

        LineageWorlds four = new LineageWorlds();
        for (int i = 0; i < 4; i++) {
            four.fact(edge(i, i + 1, i & 1), 1);
            four.condition(i & 1, 8 + i, 9 + i);
            due("11 a chain of " + (i + 1), four.fewest(), i + 1);
        }
        four.fact(edge(0, 1, 0), 1);
        due("11 a second way", four.fewest(), 4);

        LineageWorlds late = new LineageWorlds();
        late.fact(edge(0, 1, 0), 1);
        late.fact(edge(1, 2, 0), 1);
        late.fact(edge(4, 4, 0), 1);
        late.condition(0, 0, 1);
        late.condition(0, 1, 2);
        due("11 the small world comes late", late.fewest(), 1);
    }

    private static void promise12() {
        LineageWorlds w = twoWays();
        due("12 two ways", w.reasons(), 2);
        w.fact(edge(3, 2, 1), 1);
        due("12 the same said twice", w.reasons(), 3);
        w.ask();
        due("12 no conditions: the empty set", w.reasons(), 1);
        w.condition(0, 9, 8);
        due("12 no world", w.reasons(), 0);

        LineageWorlds late = new LineageWorlds();
        late.fact(edge(0, 1, 0), 1);
        late.fact(edge(1, 2, 0), 1);
        late.fact(edge(4, 4, 0), 1);
        late.condition(0, 0, 1);
        late.condition(0, 1, 2);
        due("12 reasons of different size", late.reasons(), 2);

        LineageWorlds sure = nineOf(4);
        sure.condition(0, 0, 1);
        due("12 weights are not looked at", sure.reasons(), 9);

        LineageWorlds grid = new LineageWorlds();
        for (int i = 0; i < 9; i++) {
            grid.fact(edge(i % 3, i % 3 + 1, 0), 1);
        }
        for (int i = 0; i < 3; i++) {
            grid.condition(0, 8 + i, 9 + i);
        }
        due("12 three times three times three", grid.reasons(), 27);
    }

    private static void promise13() {
        LineageWorlds w = nineOf(2);
        due("13 fact: node before number and full", w.fact(6, 0), BAD_NODE);
        due("13 fact: node before full", w.fact(7 << 3, 1), BAD_NODE);
        due("13 fact: number before full", w.fact(0, 5), BAD_NUMBER);
        due("13 fact: full", w.fact(0, 1), FULL);
        due("13 fact: node before number", new LineageWorlds().fact(6 << 3, 9), BAD_NODE);
        due("13 likely: fact before number", w.likely(9, 0), NO_FACT);
        due("13 likely: fact before number, below", w.likely(-1, 5), NO_FACT);
        due("13 likely: number", w.likely(8, 0), BAD_NUMBER);
        for (int i = 0; i < 4; i++) {
            w.condition(0, 8, 9);
        }
        due("13 condition: x before full", w.condition(0, 3, 0), BAD_NODE);
        due("13 condition: y before full", w.condition(0, 0, 14), BAD_NODE);
        due("13 condition: full", w.condition(0, 0, 13), FULL);
        due("13 nothing changed", w.share(), 262144 - 512);
    }

    private static void readingChangesNothing() {
        LineageWorlds w = twoWays();
        for (int i = 0; i < 60; i++) {
            due("reading, share", w.share(), 200);
            due("reading, all", w.all(), 256);
            due("reading, shareWith", w.shareWith(1), 104);
            due("reading, shareWith none", w.shareWith(7), NO_FACT);
            due("reading, matters", w.matters(2), true);
            due("reading, matters none", w.matters(-1), false);
            due("reading, fewest", w.fewest(), 2);
            due("reading, reasons", w.reasons(), 2);
        }
    }

    public static void main(String[] args) {
        constants();
        promise1();
        promise2Nodes();
        promise2();
        promise3();
        promise4();
        promise4Variables();
        promise5();
        promise6();
        promise7();
        promise8();
        promise9();
        promise10();
        promise11();
        promise12();
        promise13();
        readingChangesNothing();
        System.out.println(wrong == 0 ? "all promises hold" : wrong + " answers are not as due");
        if (wrong != 0) {
            System.exit(1);
        }
    }
}
