public final class MatroidDesk {
    private static final int ELEMENTS = 8;
    private static final int SETS = 256;
    private static final int ALL = SETS - 1;
    private static final int GREATEST_WEIGHT = 100;
    private static final int BELOW_EVERY_SUM = -ELEMENTS * GREATEST_WEIGHT - 1;

    private final int[] vectors = new int[ELEMENTS];
    private final int[] colours = new int[ELEMENTS];
    private final int[] weights = new int[ELEMENTS];

    // The rank of every set. Only vector() can change a rank and every answer is made from ranks,
    // so they are worked out there, once.
    private final int[] ranks = new int[SETS];

    public MatroidDesk() {
        for (int e = 0; e < ELEMENTS; e++) {
            colours[e] = e;
        }
        // While every vector is 0 every rank is 0, so the new table of ranks is right as it stands.
    }

    public void vector(int e, int vector) {
        vectors[e & 7] = vector & 31;
        updateRanks();
    }

    public void colour(int e, int colour) {
        colours[e & 7] = colour & 7;
    }

    public void weight(int e, int weight) {
        int kept = weight;
        if (kept < -GREATEST_WEIGHT) {
            kept = -GREATEST_WEIGHT;
        }
        if (kept > GREATEST_WEIGHT) {
            kept = GREATEST_WEIGHT;
        }
        weights[e & 7] = kept;
    }

    public int rank(int set) {
        return ranks[set & ALL];
    }

    public int closure(int set) {
        int start = set & ALL;
        int closed = 0;
        for (int e = 0; e < ELEMENTS; e++) {
            int bit = 1 << e;
            if (ranks[start | bit] == ranks[start]) {
                closed |= bit;
            }
        }
        return closed;
    }

    public int bases() {
        int count = 0;
        for (int set = 0; set < SETS; set++) {
            if (isBase(set)) {
                count++;
            }
        }
        return count;
    }

    public int polynomial(int x, int y) {
        int sum = 0;
        for (int set = 0; set < SETS; set++) {
            int missingRank = ranks[ALL] - ranks[set];
            int surplus = size(set) - ranks[set];
            sum += power(x - 1, missingRank) * power(y - 1, surplus);
        }
        return sum;
    }

    public int rainbow() {
        int best = 0;
        for (int set = 0; set < SETS; set++) {
            int size = size(set);
            if (size > best && isIndependent(set) && hasDifferentColours(set)) {
                best = size;
            }
        }
        return best;
    }

    public int heaviest() {
        // A base may weigh less than 0, and there is always one, so this start never comes out.
        int best = BELOW_EVERY_SUM;
        for (int set = 0; set < SETS; set++) {
            if (isBase(set)) {
                int sum = sumOfWeights(set);
                if (sum > best) {
                    best = sum;
                }
            }
        }
        return best;
    }

    public int circuits() {
        int count = 0;
        for (int set = 0; set < SETS; set++) {
            if (isCircuit(set)) {
                count++;
            }
        }
        return count;
    }

    public int union() {
        int best = 0;
        for (int set = 0; set < SETS; set++) {
            if (isIndependent(set)) {
                int size = greatestUnionWith(set);
                if (size > best) {
                    best = size;
                }
            }
        }
        return best;
    }

    private void updateRanks() {
        // Leaving out an element makes the number of a set smaller, so going upwards every rank
        // that a set's own rank is made from is already new.
        for (int set = 0; set < SETS; set++) {
            ranks[set] = rankFromSmallerSets(set);
        }
    }

    private int rankFromSmallerSets(int set) {
        // The empty set's exclusive-or is 0 although it is independent, but its rank is 0 anyway.
        boolean independent = exclusiveOr(set) != 0 && restsAreIndependent(set);
        return independent ? size(set) : greatestRankOfRests(set);
    }

    private boolean restsAreIndependent(int set) {
        for (int e = 0; e < ELEMENTS; e++) {
            if (has(set, e)) {
                int rest = set ^ (1 << e);
                if (!isIndependent(rest)) {
                    return false;
                }
            }
        }
        return true;
    }

    private int greatestRankOfRests(int set) {
        int best = 0;
        for (int e = 0; e < ELEMENTS; e++) {
            if (has(set, e)) {
                int rest = set ^ (1 << e);
                if (ranks[rest] > best) {
                    best = ranks[rest];
                }
            }
        }
        return best;
    }

    private int exclusiveOr(int set) {
        int result = 0;
        for (int e = 0; e < ELEMENTS; e++) {
            if (has(set, e)) {
                result ^= vectors[e];
            }
        }
        return result;
    }

    private boolean isIndependent(int set) {
        return ranks[set] == size(set);
    }

    private boolean isBase(int set) {
        return isIndependent(set) && ranks[set] == ranks[ALL];
    }

    private boolean isCircuit(int set) {
        return !isIndependent(set) && restsAreIndependent(set);
    }

    private boolean hasDifferentColours(int set) {
        int seen = 0;
        for (int e = 0; e < ELEMENTS; e++) {
            if (has(set, e)) {
                int bit = 1 << colours[e];
                if ((seen & bit) != 0) {
                    return false;
                }
                seen |= bit;
            }
        }
        return true;
    }

    private int sumOfWeights(int set) {
        int sum = 0;
        for (int e = 0; e < ELEMENTS; e++) {
            if (has(set, e)) {
                sum += weights[e];
            }
        }
        return sum;
    }

    private int greatestUnionWith(int first) {
        int best = 0;
        for (int second = 0; second < SETS; second++) {
            int size = size(first | second);
            if (size > best && isIndependent(second)) {
                best = size;
            }
        }
        return best;
    }

    private static boolean has(int set, int e) {
        return (set >> e & 1) != 0;
    }

    private static int size(int set) {
        int count = 0;
        for (int e = 0; e < ELEMENTS; e++) {
            count += set >> e & 1;
        }
        return count;
    }

    private static int power(int base, int exponent) {
        int result = 1;
        for (int i = 0; i < exponent; i++) {
            result *= base;
        }
        return result;
    }
}
