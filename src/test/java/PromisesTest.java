// Answers worked out by hand, promise by promise: ordinary inputs, edges and wrong inputs.
public final class PromisesTest {
    private static final int LEAST = Integer.MIN_VALUE;
    private static final int GREATEST = Integer.MAX_VALUE;

    private static int wrong = 0;

    private static void due(String call, int got, int want) {
        if (got != want) {
            wrong++;
            System.out.println(call + " answered " + got + ", due is " + want);
        }
    }

    private static MatroidDesk withVectors(int... vectors) {
        MatroidDesk desk = new MatroidDesk();
        for (int e = 0; e < vectors.length; e++) {
            desk.vector(e, vectors[e]);
        }
        return desk;
    }

    // The five unit vectors; elements 5 to 7 keep the vector 0.
    private static MatroidDesk units() {
        return withVectors(1, 2, 4, 8, 16);
    }

    // A triangle of vectors 1, 2, 3; elements 3 to 7 keep the vector 0.
    private static MatroidDesk triangle() {
        return withVectors(1, 2, 3);
    }

    // The seven points of the Fano plane; element 7 keeps the vector 0.
    private static MatroidDesk fano() {
        return withVectors(1, 2, 3, 4, 5, 6, 7);
    }

    // All eight elements share the vector 9.
    private static MatroidDesk parallel() {
        return withVectors(9, 9, 9, 9, 9, 9, 9, 9);
    }

    // Any five of the first six are a base; the elements 6 and 7 are the first two again.
    private static MatroidDesk sixCycle() {
        return withVectors(1, 2, 4, 8, 16, 31, 1, 2);
    }

    private static void promise1NewObject() {
        MatroidDesk desk = new MatroidDesk();
        due("1: rank(255)", desk.rank(255), 0);
        due("1: rank(0)", desk.rank(0), 0);
        due("1: closure(0)", desk.closure(0), 255);
        due("1: bases()", desk.bases(), 1);
        due("1: circuits()", desk.circuits(), 8);
        due("1: rainbow()", desk.rainbow(), 0);
        due("1: heaviest()", desk.heaviest(), 0);
        due("1: union()", desk.union(), 0);
        due("1: polynomial(7, 2)", desk.polynomial(7, 2), 256);

        // Every colour is another one at the start: any two unit vectors make a rainbow.
        for (int a = 0; a < 8; a++) {
            for (int b = a + 1; b < 8; b++) {
                MatroidDesk two = new MatroidDesk();
                two.vector(a, 1);
                two.vector(b, 2);
                due("1: rainbow() of " + a + " and " + b, two.rainbow(), 2);
            }
        }
        // The colour of element e is e: giving another element that colour makes them alike.
        for (int e = 0; e < 8; e++) {
            MatroidDesk two = new MatroidDesk();
            int other = (e + 3) % 8;
            two.vector(e, 1);
            two.vector(other, 2);
            two.colour(other, e);
            due("1: rainbow() with two of colour " + e, two.rainbow(), 1);
        }
        // Every weight is 0 at the start.
        for (int e = 0; e < 8; e++) {
            MatroidDesk one = new MatroidDesk();
            one.vector(e, 1);
            due("1: heaviest() of " + e, one.heaviest(), 0);
        }

        MatroidDesk changed = fano();
        changed.weight(0, 50);
        due("1: rank(255) of another object", new MatroidDesk().rank(255), 0);
        due("1: rank(255) after another object was made", changed.rank(255), 3);
    }

    private static void promise2Vector() {
        for (int e = 0; e < 8; e++) {
            MatroidDesk desk = new MatroidDesk();
            desk.vector(e, 16);
            due("2: rank of " + e + " alone", desk.rank(1 << e), 1);
            due("2: rank of all but " + e, desk.rank(255 - (1 << e)), 0);
            desk.vector(e, 0);
            due("2: rank of " + e + " set back", desk.rank(1 << e), 0);
        }
        MatroidDesk desk = new MatroidDesk();
        desk.vector(0, 32);
        due("2: vector 32 is 0", desk.rank(1), 0);
        desk.vector(0, LEAST);
        due("2: the least vector is 0", desk.rank(1), 0);
        desk.vector(0, 64 + 5);
        desk.vector(1, 5);
        due("2: vector 69 is 5", desk.rank(3), 1);
        desk.vector(1, -1);
        desk.vector(2, 31);
        due("2: vector -1 is 31", desk.rank(6), 1);
        due("2: vector -1 is not 5", desk.rank(3), 2);
        desk.vector(-1, 3);
        due("2: element -1 is 7", desk.rank(128), 1);
        desk.vector(12, 3);
        due("2: element 12 is 4", desk.rank(16), 1);
        desk.vector(LEAST + 3, 3);
        due("2: the least element and 3 is 3", desk.rank(8), 1);
        desk.vector(GREATEST, 0);
        due("2: the greatest element is 7", desk.rank(128), 0);
    }

    private static void promise3Colour() {
        MatroidDesk desk = units();
        due("3: rainbow() at the start", desk.rainbow(), 5);
        desk.colour(0, 4);
        due("3: element 0 like element 4", desk.rainbow(), 4);
        desk.colour(4, 0);
        due("3: elements 0 and 4 changed about", desk.rainbow(), 5);
        desk.colour(4, 8 + 1);
        due("3: colour 9 is 1", desk.rainbow(), 4);
        desk.colour(4, -1);
        due("3: colour -1 is 7", desk.rainbow(), 5);
        desk.colour(3, 7);
        due("3: colour 7 is what -1 gave", desk.rainbow(), 4);
        desk.colour(11, 3);
        due("3: element 11 is 3", desk.rainbow(), 5);
        desk.colour(-8, 3);
        due("3: element -8 is 0", desk.rainbow(), 4);
        desk.colour(-7, LEAST + 3);
        due("3: element -7 is 1, the least colour and 3 is 3", desk.rainbow(), 3);
        due("3: colours leave the ranks", desk.rank(255), 5);
        due("3: colours leave the weights", desk.heaviest(), 0);
    }

    private static void promise4Weight() {
        int[][] keptAs = {
            {0, 0}, {1, 1}, {-1, -1}, {99, 99}, {100, 100}, {101, 100}, {-99, -99}, {-100, -100},
            {-101, -100}, {1000, 100}, {-1000, -100}, {GREATEST, 100}, {LEAST, -100},
        };
        for (int e = 0; e < 8; e++) {
            MatroidDesk desk = new MatroidDesk();
            desk.vector(e, 6);
            for (int[] pair : keptAs) {
                desk.weight(e, pair[0]);
                due("4: weight " + pair[0] + " of " + e, desk.heaviest(), pair[1]);
            }
        }
        MatroidDesk desk = new MatroidDesk();
        desk.vector(5, 1);
        desk.weight(13, 40);
        due("4: element 13 is 5", desk.heaviest(), 40);
        desk.weight(-3, -41);
        due("4: element -3 is 5", desk.heaviest(), -41);
        desk.weight(4, 77);
        due("4: element 4 is not 5", desk.heaviest(), -41);
        due("4: weights leave the ranks", desk.rank(255), 1);
    }

    private static void promise5Rank() {
        MatroidDesk desk = fano();
        due("5: rank(0)", desk.rank(0), 0);
        due("5: one point", desk.rank(1), 1);
        due("5: the zero vector alone", desk.rank(128), 0);
        due("5: a point and the zero vector", desk.rank(129), 1);
        due("5: a line, 1 2 3", desk.rank(7), 2);
        due("5: a line, 3 5 6", desk.rank(4 + 16 + 32), 2);
        due("5: no line, 1 2 4", desk.rank(1 + 2 + 8), 3);
        due("5: four points without a line, 1 2 4 7", desk.rank(1 + 2 + 8 + 64), 3);
        due("5: all", desk.rank(255), 3);
        due("5: set 256 is empty", desk.rank(256), 0);
        due("5: set 256 + 3", desk.rank(259), 2);
        due("5: set -1", desk.rank(-1), 3);
        due("5: the least set is empty", desk.rank(LEAST), 0);
        due("5: the greatest set is all", desk.rank(GREATEST), 3);
        due("5: parallel elements", parallel().rank(255), 1);
        due("5: five of a cycle of six", sixCycle().rank(62), 5);
        due("5: a cycle of six", sixCycle().rank(63), 5);
        due("5: four elements that sum to 0", withVectors(1, 2, 4, 7).rank(15), 3);
    }

    private static void promise6Closure() {
        MatroidDesk desk = fano();
        due("6: the empty set", desk.closure(0), 128);
        due("6: one point", desk.closure(2), 128 + 2);
        due("6: two points of a line", desk.closure(3), 128 + 7);
        due("6: a whole line", desk.closure(7), 128 + 7);
        due("6: points 4 and 7", desk.closure(8 + 64), 128 + 64 + 8 + 4);
        due("6: three points of no line", desk.closure(1 + 2 + 8), 255);
        due("6: the zero vector alone", desk.closure(128), 128);
        due("6: all", desk.closure(255), 255);
        due("6: set 256 is empty", desk.closure(256), 128);
        due("6: set -256 + 3", desk.closure(-253), 128 + 7);
        due("6: the least set is empty", desk.closure(LEAST), 128);
        due("6: -1", desk.closure(-1), 255);
        due("6: one of many parallel", parallel().closure(32), 255);
        due("6: no zero vector", parallel().closure(0), 0);
        due("6: element 7 and its parallel", sixCycle().closure(128), 128 + 2);
        due("6: the set itself is in it", sixCycle().closure(128 + 16), 128 + 16 + 2);
        due("6: four of a cycle of six", sixCycle().closure(60), 60);
        due("6: five of a cycle of six", sixCycle().closure(62), 255);
    }

    private static void promise7Bases() {
        due("7: units", units().bases(), 1);
        due("7: triangle", triangle().bases(), 3);
        due("7: fano", fano().bases(), 28);
        due("7: parallel", parallel().bases(), 8);
        // 6 of the simple cycle: 2 leave out a doubled element (2 each), 4 hold both (4 each).
        due("7: six cycle", sixCycle().bases(), 2 * 2 + 4 * 4);
        MatroidDesk desk = triangle();
        desk.vector(2, 4);
        due("7: triangle made independent", desk.bases(), 1);
        desk.vector(0, 0);
        desk.vector(1, 0);
        desk.vector(2, 0);
        due("7: rank 0 has the empty base", desk.bases(), 1);
    }

    private static void promise8Polynomial() {
        // Three in a triangle: x^2 + x + y; each zero vector multiplies by y.
        MatroidDesk desk = triangle();
        int[][] points = {
            {0, 0}, {1, 1}, {2, 2}, {3, 1}, {1, 3}, {0, 1}, {1, 0}, {-1, 2}, {5, -4}, {-3, -3},
            {1000, 1000}, {65536, 3}, {LEAST, 1}, {GREATEST, 1}, {3, LEAST}, {3, GREATEST},
            {LEAST, GREATEST}, {LEAST, LEAST}, {GREATEST, GREATEST}, {-1, -1},
        };
        for (int[] point : points) {
            int x = point[0];
            int y = point[1];
            int want = (x * x + x + y) * y * y * y * y * y;
            due("8: triangle at (" + x + ", " + y + ")", desk.polynomial(x, y), want);
        }
        // Five free elements and three zero vectors: x^5 y^3.
        for (int[] point : points) {
            int x = point[0];
            int y = point[1];
            int want = x * x * x * x * x * y * y * y;
            due("8: units at (" + x + ", " + y + ")", units().polynomial(x, y), want);
        }
        // Eight parallel elements: x + y + y^2 + ... + y^7.
        for (int[] point : points) {
            int want = point[0];
            int power = 1;
            for (int i = 1; i < 8; i++) {
                power *= point[1];
                want += power;
            }
            due("8: parallel at (" + point[0] + ", " + point[1] + ")",
                parallel().polynomial(point[0], point[1]), want);
        }
        due("8: fano at (1, 1) counts bases", fano().polynomial(1, 1), 28);
        due("8: fano at (2, 2) counts sets", fano().polynomial(2, 2), 256);
        due("8: fano at (2, 1) counts independent sets", fano().polynomial(2, 1), 1 + 7 + 21 + 28);
    }

    private static void promise9Rainbow() {
        MatroidDesk desk = triangle();
        due("9: triangle", desk.rainbow(), 2);
        desk.colour(0, 6);
        desk.colour(1, 6);
        due("9: two of three alike", desk.rainbow(), 2);
        desk.colour(2, 6);
        due("9: all alike", desk.rainbow(), 1);
        due("9: a new object", new MatroidDesk().rainbow(), 0);
        due("9: parallel", parallel().rainbow(), 1);
        due("9: six cycle", sixCycle().rainbow(), 5);

        // Taking element 0 first is a trap: 1 shares its colour and 2 its vector.
        MatroidDesk trap = withVectors(1, 2, 1);
        trap.colour(0, 3);
        trap.colour(1, 3);
        trap.colour(2, 5);
        due("9: a first choice that must be undone", trap.rainbow(), 2);

        // Three colours and rank 3, but the elements of two of the colours are all parallel.
        MatroidDesk blocked = withVectors(1, 1, 1, 2, 4);
        blocked.colour(0, 0);
        blocked.colour(1, 0);
        blocked.colour(2, 1);
        blocked.colour(3, 2);
        blocked.colour(4, 2);
        due("9: fewer than both the rank and the colours", blocked.rainbow(), 2);
    }

    private static void promise10Heaviest() {
        due("10: rank 0, whatever the weights", rankZeroHeaviest(), 0);

        MatroidDesk desk = triangle();
        desk.weight(0, -10);
        desk.weight(1, -20);
        desk.weight(2, -30);
        due("10: a base is whole even if every weight is less than 0", desk.heaviest(), -30);
        desk.weight(2, 30);
        due("10: the two heaviest", desk.heaviest(), 20);
        desk.weight(7, 100);
        due("10: the zero vector is in no base", desk.heaviest(), 20);

        MatroidDesk least = units();
        MatroidDesk greatest = units();
        for (int e = 0; e < 8; e++) {
            least.weight(e, -100);
            greatest.weight(e, 100);
        }
        due("10: five of the least weight", least.heaviest(), -500);
        due("10: five of the greatest weight", greatest.heaviest(), 500);

        MatroidDesk lines = fano();
        int[] weights = {50, 40, 45, 1, 2, 3, -4};
        for (int e = 0; e < weights.length; e++) {
            lines.weight(e, weights[e]);
        }
        due("10: the three heaviest are a line", lines.heaviest(), 50 + 45 + 3);
    }

    private static int rankZeroHeaviest() {
        MatroidDesk desk = new MatroidDesk();
        for (int e = 0; e < 8; e++) {
            desk.weight(e, 10 * e - 35);
        }
        return desk.heaviest();
    }

    private static void promise11Circuits() {
        due("11: a new object, eight zero vectors", new MatroidDesk().circuits(), 8);
        due("11: units, three zero vectors", units().circuits(), 3);
        due("11: triangle and five zero vectors", triangle().circuits(), 1 + 5);
        due("11: fano, 7 lines, 7 fours, a zero vector", fano().circuits(), 15);
        due("11: parallel, every pair", parallel().circuits(), 28);
        due("11: six cycle, two pairs and four cycles", sixCycle().circuits(), 2 + 4);
        due("11: four that sum to 0, four zero vectors", withVectors(1, 2, 4, 7).circuits(), 1 + 4);
        // Two pairs: their union sums to 0 too, but is no circuit.
        due("11: two pairs, four zero vectors", withVectors(1, 1, 2, 2).circuits(), 2 + 4);
        // 0125, 346 and 567 sum to 0; so do four more sets, of which 0123456 is two circuits apart.
        due("11: no zero vector", withVectors(1, 2, 4, 8, 16, 7, 24, 31).circuits(), 3 + 4 - 1);
    }

    private static void promise12Union() {
        due("12: a new object", new MatroidDesk().union(), 0);
        due("12: units", units().union(), 5);
        due("12: triangle", triangle().union(), 3);
        due("12: parallel", parallel().union(), 2);
        due("12: fano", fano().union(), 6);
        due("12: six cycle", sixCycle().union(), 8);
        // Five parallel elements give two at most, the other three are free.
        due("12: five parallel and three free", withVectors(1, 1, 1, 1, 1, 2, 4, 8).union(), 5);
        // Five on a line give four at most.
        due("12: five on a line and one off it", withVectors(1, 2, 3, 1, 2, 4).union(), 5);
        due("12: one element", withVectors(0, 0, 0, 21).union(), 1);
    }

    public static void main(String[] args) {
        promise1NewObject();
        promise2Vector();
        promise3Colour();
        promise4Weight();
        promise5Rank();
        promise6Closure();
        promise7Bases();
        promise8Polynomial();
        promise9Rainbow();
        promise10Heaviest();
        promise11Circuits();
        promise12Union();
        System.out.println(wrong == 0 ? "all answers are as due" : wrong + " answers are not as due");
        if (wrong != 0) {
            System.exit(1);
        }
    }
}
