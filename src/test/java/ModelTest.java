import java.math.BigInteger;

// Long runs of calls on new objects; each answer is compared with one worked out straight from
// the document's words, over all subsets, without the ranks of other sets.
public final class ModelTest {
    private static final int RUNS = 150;
    private static final int CALLS = 512;

    private static int wrong = 0;
    private static long seed = 20261115L;

    private final int[] vectors = new int[8];
    private final int[] colours = {0, 1, 2, 3, 4, 5, 6, 7};
    private final int[] weights = new int[8];

    // The same numbers in every run of the test, so that a fault can be seen again.
    private static int next() {
        seed = seed * 6364136223846793005L + 1442695040888963407L;
        return (int) (seed >>> 32);
    }

    private static int below(int bound) {
        return Math.floorMod(next() >> 3, bound);
    }

    private boolean isDependent(int set) {
        for (int part = set; part != 0; part = (part - 1) & set) {
            int sum = 0;
            for (int e = 0; e < 8; e++) {
                if ((part & 1 << e) != 0) {
                    sum ^= vectors[e];
                }
            }
            if (sum == 0) {
                return true;
            }
        }
        return false;
    }

    private int rank(int set) {
        int best = 0;
        for (int part = set & 255; part != 0; part = (part - 1) & set & 255) {
            if (Integer.bitCount(part) > best && !isDependent(part)) {
                best = Integer.bitCount(part);
            }
        }
        return best;
    }

    private int closure(int set) {
        int closed = 0;
        for (int e = 0; e < 8; e++) {
            if (rank(set | 1 << e) == rank(set)) {
                closed += 1 << e;
            }
        }
        return closed;
    }

    private boolean isBase(int set, int rankOfAll) {
        return Integer.bitCount(set) == rankOfAll && !isDependent(set);
    }

    private int bases() {
        int rankOfAll = rank(255);
        int count = 0;
        for (int set = 0; set < 256; set++) {
            count += isBase(set, rankOfAll) ? 1 : 0;
        }
        return count;
    }

    // Without wrapping until the end.
    private int polynomial(int x, int y) {
        BigInteger left = BigInteger.valueOf(x - 1L);
        BigInteger right = BigInteger.valueOf(y - 1L);
        BigInteger sum = BigInteger.ZERO;
        int rankOfAll = rank(255);
        for (int set = 0; set < 256; set++) {
            int rank = rank(set);
            BigInteger term = left.pow(rankOfAll - rank);
            sum = sum.add(term.multiply(right.pow(Integer.bitCount(set) - rank)));
        }
        return sum.intValue();
    }

    private int rainbow() {
        int best = 0;
        for (int set = 0; set < 256; set++) {
            boolean different = true;
            for (int a = 0; a < 8; a++) {
                for (int b = 0; b < a; b++) {
                    boolean bothIn = (set & 1 << a) != 0 && (set & 1 << b) != 0;
                    different &= !bothIn || colours[a] != colours[b];
                }
            }
            if (different && !isDependent(set)) {
                best = Math.max(best, Integer.bitCount(set));
            }
        }
        return best;
    }

    private int heaviest() {
        int rankOfAll = rank(255);
        int best = Integer.MIN_VALUE;
        for (int set = 0; set < 256; set++) {
            if (isBase(set, rankOfAll)) {
                int sum = 0;
                for (int e = 0; e < 8; e++) {
                    sum += (set >> e & 1) * weights[e];
                }
                best = Math.max(best, sum);
            }
        }
        return best;
    }

    private int circuits() {
        int count = 0;
        for (int set = 0; set < 256; set++) {
            boolean circuit = isDependent(set);
            for (int e = 0; e < 8; e++) {
                if ((set & 1 << e) != 0) {
                    circuit &= !isDependent(set - (1 << e));
                }
            }
            count += circuit ? 1 : 0;
        }
        return count;
    }

    private int union() {
        boolean[] dependent = new boolean[256];
        for (int set = 0; set < 256; set++) {
            dependent[set] = isDependent(set);
        }
        int best = 0;
        for (int a = 0; a < 256; a++) {
            for (int b = 0; b < 256; b++) {
                if (!dependent[a] && !dependent[b]) {
                    best = Math.max(best, Integer.bitCount(a | b));
                }
            }
        }
        return best;
    }

    private static void due(int run, String call, int got, int want) {
        if (got != want) {
            wrong++;
            System.out.println("run " + run + ": " + call + " answered " + got + ", due is " + want);
        }
    }

    // Mostly in range, at times just or far out of it.
    private static int argument(int least, int greatest) {
        int span = greatest - least + 1;
        switch (below(8)) {
            case 0:
                return next();
            case 1:
                return least - 1 - below(span);
            case 2:
                return greatest + 1 + below(span);
            default:
                return least + below(span);
        }
    }

    private void change(MatroidDesk desk, int mask) {
        int e = argument(0, 7);
        int kind = below(4);
        if (kind == 0) {
            int colour = argument(0, 7) & ~(mask & 4);
            desk.colour(e, colour);
            colours[Math.floorMod(e, 8)] = Math.floorMod(colour, 8);
        } else if (kind == 1) {
            int weight = argument(-100, 100);
            desk.weight(e, weight);
            weights[Math.floorMod(e, 8)] = Math.max(-100, Math.min(100, weight));
        } else {
            // The mask keeps some runs in few dimensions, where more depends on more.
            int vector = argument(0, 31) & (mask | ~31);
            desk.vector(e, vector);
            vectors[Math.floorMod(e, 8)] = Math.floorMod(vector, 32);
        }
    }

    private void ask(MatroidDesk desk, int run) {
        int set = argument(0, 255);
        int x = argument(-10, 10);
        int y = argument(-10, 10);
        switch (below(8)) {
            case 0 -> due(run, "rank(" + set + ")", desk.rank(set), rank(set));
            case 1 -> due(run, "closure(" + set + ")", desk.closure(set), closure(set));
            case 2 -> due(run, "bases()", desk.bases(), bases());
            case 3 -> due(run, "polynomial(" + x + ", " + y + ")", desk.polynomial(x, y), polynomial(x, y));
            case 4 -> due(run, "rainbow()", desk.rainbow(), rainbow());
            case 5 -> due(run, "heaviest()", desk.heaviest(), heaviest());
            case 6 -> due(run, "circuits()", desk.circuits(), circuits());
            default -> due(run, "union()", desk.union(), union());
        }
    }

    public static void main(String[] args) {
        for (int run = 1; run <= RUNS; run++) {
            MatroidDesk desk = new MatroidDesk();
            ModelTest model = new ModelTest();
            int mask = run % 3 == 0 ? 31 : below(32);
            for (int call = 0; call < CALLS; call++) {
                if (below(2) == 0) {
                    model.change(desk, mask);
                } else {
                    model.ask(desk, run);
                }
            }
        }
        System.out.println(wrong == 0 ? "all answers are as due" : wrong + " answers are not as due");
        if (wrong != 0) {
            System.exit(1);
        }
    }
}
