/**
 * A catalogue of all small graphs up to renaming.
 *
 * The constructor works out every class once; afterwards nothing in the object changes, so
 * answers do not depend on the calls made before.
 */
public final class GraphCatalogue {
    public static final int BAD = -1;

    private static final int MOST_POINTS = 5;
    private static final int MOST_COUPLES = 10;
    private static final int MOST_GRAPHS = 1024;
    private static final int MOST_RENAMINGS = 120;
    private static final int TABLE_LENGTH = MOST_RENAMINGS * MOST_COUPLES;

    private final int pointCount;
    private final int coupleCount;
    private final int graphCount;
    private final int renamingCount;
    private int classCount = 0;

    /** The new number of each point, for the renaming that is being tabled. */
    private final int[] newName = new int[MOST_POINTS];
    /** The new number of couple c under renaming r stands at r * MOST_COUPLES + c. */
    private final int[] newCouple = new int[TABLE_LENGTH];
    /** The leader of each graph's class; BAD while the graph's class is not yet found. */
    private final int[] leaderOf = new int[MOST_GRAPHS];
    /** How many graphs a class has, at its leader's place. */
    private final int[] classSize = new int[MOST_GRAPHS];
    /** How many renamings keep a graph, at its leader's place. */
    private final int[] keepers = new int[MOST_GRAPHS];
    /** The leaders in ascending order; no more classes than graphs can ever come. */
    private final int[] leaders = new int[MOST_GRAPHS];

    public GraphCatalogue(int points) {
        pointCount = points < 1 ? 1 : points > MOST_POINTS ? MOST_POINTS : points;
        coupleCount = pointCount * (pointCount - 1) / 2;
        graphCount = 1 << coupleCount;
        renamingCount = factorial(pointCount);
        tableRenamings();
        findClasses();
    }

    public int leader(int graph) {
        return isGraph(graph) ? leaderOf[graph] : BAD;
    }

    public int symmetries(int graph) {
        // Graphs that are alike have equally many symmetries, so the leader's number serves all.
        return isGraph(graph) ? keepers[leaderOf[graph]] : BAD;
    }

    public int alike(int graph) {
        return isGraph(graph) ? classSize[leaderOf[graph]] : BAD;
    }

    public int classes() {
        return classCount;
    }

    public int classesWith(int edges) {
        int found = 0;
        for (int k = 0; k < classCount; k++) {
            if (edgeCount(leaders[k]) == edges) {
                found++;
            }
        }
        return found;
    }

    public int entry(int k) {
        return k >= 0 && k < classCount ? leaders[k] : BAD;
    }

    public int connected() {
        int found = 0;
        for (int k = 0; k < classCount; k++) {
            if (isConnected(leaders[k])) {
                found++;
            }
        }
        return found;
    }

    public int extensions(int graph) {
        if (!isGraph(graph)) {
            return BAD;
        }
        int found = 0;
        for (int c = 0; c < coupleCount; c++) {
            if (!hasEdge(graph, c) && isNewExtension(graph, c)) {
                found++;
            }
        }
        return found;
    }

    public boolean contains(int graph, int part) {
        if (!isGraph(graph) || !isGraph(part)) {
            return false;
        }
        for (int r = 0; r < renamingCount; r++) {
            if ((renamed(part, r) & ~graph) == 0) {
                return true;
            }
        }
        return false;
    }

    public int selfOpposite() {
        int found = 0;
        for (int k = 0; k < classCount; k++) {
            int opposite = graphCount - 1 - leaders[k];
            if (leaderOf[opposite] == leaders[k]) {
                found++;
            }
        }
        return found;
    }

    public int points() {
        return pointCount;
    }

    private static int factorial(int number) {
        int product = 1;
        for (int factor = 2; factor <= number; factor++) {
            product *= factor;
        }
        return product;
    }

    private static int coupleNumber(int one, int other) {
        int low = one < other ? one : other;
        int high = one < other ? other : one;
        return high * (high - 1) / 2 + low;
    }

    private static boolean hasEdge(int graph, int couple) {
        return (graph >> couple & 1) == 1;
    }

    private boolean isGraph(int number) {
        return number >= 0 && number < graphCount;
    }

    private void tableRenamings() {
        for (int r = 0; r < renamingCount; r++) {
            spellRenaming(r);
            tableCouples(r * MOST_COUPLES);
        }
    }

    /**
     * Reads the number as digits of base 1, 2, .., n, each telling which earlier place gives way
     * to the next point: so the numbers below n! spell every renaming just once.
     */
    private void spellRenaming(int number) {
        int rest = number;
        for (int p = 0; p < pointCount; p++) {
            int place = rest % (p + 1);
            rest /= p + 1;
            newName[p] = newName[place];
            newName[place] = p;
        }
    }

    private void tableCouples(int start) {
        for (int j = 1; j < pointCount; j++) {
            for (int i = 0; i < j; i++) {
                int couple = coupleNumber(i, j);
                newCouple[start + couple] = coupleNumber(newName[i], newName[j]);
            }
        }
    }

    private int renamed(int graph, int renaming) {
        int image = 0;
        for (int c = 0; c < coupleCount; c++) {
            if (hasEdge(graph, c)) {
                image |= 1 << newCouple[renaming * MOST_COUPLES + c];
            }
        }
        return image;
    }

    private void findClasses() {
        for (int g = 0; g < graphCount; g++) {
            leaderOf[g] = BAD;
        }
        // In ascending order, the first graph met of a class is its smallest.
        for (int g = 0; g < graphCount; g++) {
            if (leaderOf[g] == BAD) {
                leaders[classCount] = g;
                classCount++;
                gatherClass(g);
            }
        }
    }

    private void gatherClass(int first) {
        for (int r = 0; r < renamingCount; r++) {
            int image = renamed(first, r);
            if (image == first) {
                keepers[first]++;
            }
            if (leaderOf[image] == BAD) {
                leaderOf[image] = first;
                classSize[first]++;
            }
        }
    }

    private int edgeCount(int graph) {
        int count = 0;
        for (int c = 0; c < coupleCount; c++) {
            if (hasEdge(graph, c)) {
                count++;
            }
        }
        return count;
    }

    private boolean isConnected(int graph) {
        int reached = 1;
        // No point is further than n - 1 edges from point 0, and each round goes one edge at least.
        for (int round = 1; round < pointCount; round++) {
            reached = widened(graph, reached);
        }
        return reached == (1 << pointCount) - 1;
    }

    /** The set of points, one bit each, with the ends of every edge that touches the set. */
    private int widened(int graph, int reached) {
        int set = reached;
        for (int j = 1; j < pointCount; j++) {
            for (int i = 0; i < j; i++) {
                int ends = 1 << i | 1 << j;
                int couple = coupleNumber(i, j);
                if (hasEdge(graph, couple) && (set & ends) != 0) {
                    set |= ends;
                }
            }
        }
        return set;
    }

    /** Whether no missing couple of a smaller number leads to the same class. */
    private boolean isNewExtension(int graph, int couple) {
        int target = leaderOf[graph | 1 << couple];
        for (int c = 0; c < couple; c++) {
            if (!hasEdge(graph, c) && leaderOf[graph | 1 << c] == target) {
                return false;
            }
        }
        return true;
    }
}
