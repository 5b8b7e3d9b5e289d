/** A database of uncertain facts, and one question about them. */
public final class LineageWorlds {
    public static final int BAD_NODE = -1;
    public static final int BAD_NUMBER = -2;
    public static final int FULL = -3;
    public static final int NO_FACT = -4;

    private static final int MOST_FACTS = 9;
    private static final int MOST_WORLDS = 512;
    private static final int MOST_CONDITIONS = 4;
    private static final int MOST_N = 4;
    private static final int NODES = 6;
    private static final int VARIABLES = 3;
    private static final int CHOICES = 216;
    private static final int FIRST_FIXED = 8;
    private static final int EDGE_BITS = 127;

    private final int[] edgeOf = new int[MOST_FACTS];
    private final int[] numberOf = new int[MOST_FACTS];
    private int facts;

    private final int[] labelOf = new int[MOST_CONDITIONS];
    private final int[] startOf = new int[MOST_CONDITIONS];
    private final int[] endOf = new int[MOST_CONDITIONS];
    private int conditions;

    // Scratch: both are filled anew by every call that reads them, so nothing
    // has to keep them in step with the facts and the question. A world and a
    // set of facts are the same thing here: bit i stands for fact i.
    private final int[] provers = new int[MOST_CONDITIONS];
    private final boolean[] yes = new boolean[MOST_WORLDS];

    public LineageWorlds() {
        facts = 0;
        conditions = 0;
    }

    public int fact(int edge, int n) {
        if (!isNode(edge & 7) || !isNode((edge >> 3) & 7)) {
            return BAD_NODE;
        }
        if (!isNumber(n)) {
            return BAD_NUMBER;
        }
        if (facts >= MOST_FACTS) {
            return FULL;
        }
        edgeOf[facts] = edge & EDGE_BITS;
        numberOf[facts] = n;
        facts++;
        return facts - 1;
    }

    public int likely(int fact, int n) {
        if (!isFact(fact)) {
            return NO_FACT;
        }
        if (!isNumber(n)) {
            return BAD_NUMBER;
        }
        int old = numberOf[fact];
        numberOf[fact] = n;
        return old;
    }

    public int condition(int label, int x, int y) {
        if (!isTerm(x) || !isTerm(y)) {
            return BAD_NODE;
        }
        if (conditions >= MOST_CONDITIONS) {
            return FULL;
        }
        labelOf[conditions] = label & 1;
        startOf[conditions] = x;
        endOf[conditions] = y;
        conditions++;
        return conditions;
    }

    public void ask() {
        conditions = 0;
    }

    public int drop() {
        if (facts == 0) {
            return NO_FACT;
        }
        facts--;
        return facts;
    }

    public int share() {
        findAnswers();
        return weightOfYes(0);
    }

    public int all() {
        return 1 << (2 * facts);
    }

    public int shareWith(int fact) {
        if (!isFact(fact)) {
            return NO_FACT;
        }
        findAnswers();
        return weightOfYes(1 << fact);
    }

    public boolean matters(int fact) {
        if (!isFact(fact)) {
            return false;
        }
        findAnswers();
        int worlds = 1 << facts;
        int bit = 1 << fact;
        for (int world = 0; world < worlds; world++) {
            if (yes[world] != yes[world ^ bit]) {
                return true;
            }
        }
        return false;
    }

    public int fewest() {
        findAnswers();
        int worlds = 1 << facts;
        int least = NO_FACT;
        for (int world = 0; world < worlds; world++) {
            if (yes[world]) {
                int size = sizeOf(world);
                if (least == NO_FACT || size < least) {
                    least = size;
                }
            }
        }
        return least;
    }

    public int reasons() {
        findAnswers();
        int worlds = 1 << facts;
        int count = 0;
        for (int world = 0; world < worlds; world++) {
            if (isReason(world)) {
                count++;
            }
        }
        return count;
    }

    private static boolean isNode(int node) {
        return node >= 0 && node < NODES;
    }

    private static boolean isNumber(int n) {
        return n >= 1 && n <= MOST_N;
    }

    private static boolean isTerm(int term) {
        boolean variable = term >= 0 && term < VARIABLES;
        boolean fixed = term >= FIRST_FIXED && term < FIRST_FIXED + NODES;
        return variable || fixed;
    }

    private boolean isFact(int fact) {
        return fact >= 0 && fact < facts;
    }

    private static boolean isTrueIn(int world, int fact) {
        return ((world >> fact) & 1) != 0;
    }

    /** Fills yes[world] for every world of the facts there are now. */
    private void findAnswers() {
        int worlds = 1 << facts;
        for (int world = 0; world < worlds; world++) {
            yes[world] = false;
        }
        for (int choice = 0; choice < CHOICES; choice++) {
            if (findProvers(choice)) {
                markWorlds(worlds);
            }
        }
    }

    /**
     * Fills provers[c] with the facts that make condition c hold under this
     * choice of values; false if some condition has none, as then no world
     * can answer yes by this choice.
     */
    private boolean findProvers(int choice) {
        for (int c = 0; c < conditions; c++) {
            int start = nodeOf(startOf[c], choice);
            int end = nodeOf(endOf[c], choice);
            int saying = factsSaying(start | (end << 3) | (labelOf[c] << 6));
            if (saying == 0) {
                return false;
            }
            provers[c] = saying;
        }
        return true;
    }

    /** A choice holds the values of the variables 0 to 2 as digits to the base 6. */
    private static int nodeOf(int term, int choice) {
        if (term >= FIRST_FIXED) {
            return term - FIRST_FIXED;
        }
        int rest = choice;
        for (int digit = 0; digit < term; digit++) {
            rest = rest / NODES;
        }
        return rest % NODES;
    }

    private int factsSaying(int edge) {
        int saying = 0;
        for (int i = 0; i < facts; i++) {
            if (edgeOf[i] == edge) {
                saying |= 1 << i;
            }
        }
        return saying;
    }

    private void markWorlds(int worlds) {
        for (int world = 0; world < worlds; world++) {
            if (!yes[world] && provesAll(world)) {
                yes[world] = true;
            }
        }
    }

    private boolean provesAll(int world) {
        for (int c = 0; c < conditions; c++) {
            if ((world & provers[c]) == 0) {
                return false;
            }
        }
        return true;
    }

    private int weightOfYes(int needed) {
        int worlds = 1 << facts;
        int sum = 0;
        for (int world = 0; world < worlds; world++) {
            if (yes[world] && (world & needed) == needed) {
                sum += weightOf(world);
            }
        }
        return sum;
    }

    private int weightOf(int world) {
        int weight = 1;
        for (int i = 0; i < facts; i++) {
            weight *= isTrueIn(world, i) ? numberOf[i] : MOST_N - numberOf[i];
        }
        return weight;
    }

    private int sizeOf(int world) {
        int size = 0;
        for (int i = 0; i < facts; i++) {
            if (isTrueIn(world, i)) {
                size++;
            }
        }
        return size;
    }

    private boolean isReason(int world) {
        if (!yes[world]) {
            return false;
        }
        for (int i = 0; i < facts; i++) {
            if (isTrueIn(world, i) && yes[world ^ (1 << i)]) {
                return false;
            }
        }
        return true;
    }
}
