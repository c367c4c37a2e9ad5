import java.math.BigInteger;

// The boundary cases that the document names: one test for each sentence, which stands above it.
// No call is ever refused, so arguments out of range are tested for what they are taken as.
public final class BoundariesTest {
    private static final int LEAST = Integer.MIN_VALUE;
    private static final int GREATEST = Integer.MAX_VALUE;

    private static int wrong = 0;

    private static void due(String call, int got, int want) {
        if (got != want) {
            wrong++;
            System.out.println(call + " answered " + got + ", due is " + want);
        }
    }

    private static MatroidDesk withVectors(int... vectors) {
        MatroidDesk desk = new MatroidDesk();
        giveVectors(desk, vectors);
        return desk;
    }

    private static void giveVectors(MatroidDesk desk, int... vectors) {
        for (int e = 0; e < vectors.length; e++) {
            desk.vector(e, vectors[e]);
        }
    }

    // The vector 1 for element e alone, 0 for all others.
    private static MatroidDesk withOnly(int e) {
        MatroidDesk desk = new MatroidDesk();
        desk.vector(e, 1);
        return desk;
    }

    // The greatest rank there is, and three elements of vector 0.
    private static MatroidDesk units() {
        return withVectors(1, 2, 4, 8, 16, 0, 0, 0);
    }

    private static MatroidDesk parallel() {
        return withVectors(21, 21, 21, 21, 21, 21, 21, 21);
    }

    // Eight different vectors, each with the bit 8: four of them depend only if they sum to 0
    // (14 of the 70), and three or fewer never do.
    private static MatroidDesk cube() {
        return withVectors(8, 9, 10, 11, 12, 13, 14, 15);
    }

    // Five other elements get the unit vectors. Four of them and element e have rank 5 only if the
    // vector of e has the bit of the fifth.
    private static int vectorOf(MatroidDesk desk, int e) {
        int units = 0;
        for (int b = 0; b < 5; b++) {
            int other = (e + 1 + b) % 8;
            desk.vector(other, 1 << b);
            units += 1 << other;
        }
        int vector = 0;
        for (int b = 0; b < 5; b++) {
            int fifth = 1 << ((e + 1 + b) % 8);
            int more = desk.rank(units - fifth + (1 << e)) - 4;
            vector += more << b;
        }
        return vector;
    }

    // Another element is given each colour in turn: it makes no rainbow with e if e has the same.
    // -1 if there isn't just one such colour.
    private static int colourOf(MatroidDesk desk, int e) {
        int other = (e + 1) % 8;
        giveVectors(desk, 0, 0, 0, 0, 0, 0, 0, 0);
        desk.vector(e, 1);
        desk.vector(other, 2);
        int found = 0;
        int colour = -1;
        for (int c = 0; c < 8; c++) {
            desk.colour(other, c);
            if (desk.rainbow() == 1) {
                found++;
                colour = c;
            }
        }
        return found == 1 ? colour : -1;
    }

    private static int weightOf(MatroidDesk desk, int e) {
        giveVectors(desk, 0, 0, 0, 0, 0, 0, 0, 0);
        desk.vector(e, 1);
        return desk.heaviest();
    }

    // Around every power of two, so that each bit of an argument is tried.
    private static int[] wideNumbers() {
        int[] numbers = new int[32 * 6];
        for (int b = 0; b < 32; b++) {
            for (int i = 0; i < 3; i++) {
                numbers[6 * b + i] = (1 << b) - 1 + i;
                numbers[6 * b + 3 + i] = -(1 << b) - 1 + i;
            }
        }
        return numbers;
    }

    // ---- What it is

    // "An object is used for at most 512 calls after it has been made": the 512th still counts.
    private static void the512thCallIsAnswered() {
        for (int question = 0; question < 9; question++) {
            MatroidDesk changed = new MatroidDesk();
            for (int call = 1; call <= 511 - 24; call++) {
                changeSomething(changed, call);
            }
            giveCube(changed);
            askTheCube("512th call after changes", changed, question);

            MatroidDesk asked = new MatroidDesk();
            giveCube(asked);
            for (int call = 24 + 1; call <= 512; call++) {
                askTheCube("call " + call, asked, question);
            }
        }
    }

    private static void changeSomething(MatroidDesk desk, int call) {
        if (call % 3 == 0) {
            desk.vector(call / 3, 7 * call);
        } else if (call % 3 == 1) {
            desk.colour(call / 3, call / 5);
        } else {
            desk.weight(call / 3, call - 200);
        }
    }

    // 24 calls.
    private static void giveCube(MatroidDesk desk) {
        for (int e = 0; e < 8; e++) {
            desk.vector(e, 8 + e);
            desk.colour(e, e / 4);
            desk.weight(e, e);
        }
    }

    private static void askTheCube(String when, MatroidDesk desk, int question) {
        switch (question) {
            case 0 -> due(when + ": rank(255)", desk.rank(255), 4);
            case 1 -> due(when + ": closure(7)", desk.closure(7), 15);
            case 2 -> due(when + ": bases()", desk.bases(), 70 - 14);
            case 3 -> due(when + ": polynomial(1, 1)", desk.polynomial(1, 1), 70 - 14);
            case 4 -> due(when + ": polynomial(2, 2)", desk.polynomial(2, 2), 256);
            case 5 -> due(when + ": rainbow()", desk.rainbow(), 2);
            // 4 5 6 7 sum to 0, so 3 stands in for 4.
            case 6 -> due(when + ": heaviest()", desk.heaviest(), 3 + 5 + 6 + 7);
            case 7 -> due(when + ": circuits()", desk.circuits(), 14);
            default -> due(when + ": union()", desk.union(), 8);
        }
    }

    // ---- Terms

    // "ELEMENTS are 0 to 7."
    private static void everyElementCounts() {
        for (int e = 0; e < 8; e++) {
            MatroidDesk desk = withOnly(e);
            desk.weight(e, 6);
            String only = "only element " + e + ": ";
            due(only + "rank of it", desk.rank(1 << e), 1);
            due(only + "rank of the others", desk.rank(255 - (1 << e)), 0);
            due(only + "closure(0)", desk.closure(0), 255 - (1 << e));
            due(only + "bases()", desk.bases(), 1);
            due(only + "polynomial(3, 5)", desk.polynomial(3, 5), 3 * 78125);
            due(only + "rainbow()", desk.rainbow(), 1);
            due(only + "heaviest()", desk.heaviest(), 6);
            due(only + "circuits()", desk.circuits(), 7);
            due(only + "union()", desk.union(), 1);
        }
    }

    // "Each has a VECTOR, a number from 0 to 31"
    private static void everyVectorFrom0To31IsKept() {
        for (int e = 0; e < 8; e++) {
            for (int vector = 0; vector <= 31; vector++) {
                MatroidDesk desk = new MatroidDesk();
                desk.vector(e, vector);
                due("vector " + vector + " of " + e, vectorOf(desk, e), vector);
            }
        }
    }

    // "(0 at the start)", of the vector
    private static void vectorIs0AtTheStart() {
        for (int e = 0; e < 8; e++) {
            due("first vector of " + e, vectorOf(new MatroidDesk(), e), 0);
        }
    }

    // "a COLOUR from 0 to 7"
    private static void everyColourFrom0To7IsKept() {
        for (int e = 0; e < 8; e++) {
            for (int colour = 0; colour <= 7; colour++) {
                MatroidDesk desk = new MatroidDesk();
                desk.colour(e, colour);
                due("colour " + colour + " of " + e, colourOf(desk, e), colour);
            }
        }
    }

    // "(at the start that of element e is e)"
    private static void colourIsTheElementAtTheStart() {
        for (int e = 0; e < 8; e++) {
            due("first colour of " + e, colourOf(new MatroidDesk(), e), e);
        }
    }

    // "a WEIGHT from -100 to 100"
    private static void everyWeightFromMinus100To100IsKept() {
        for (int e = 0; e < 8; e++) {
            for (int weight = -100; weight <= 100; weight++) {
                MatroidDesk desk = withOnly(e);
                desk.weight(e, weight);
                due("weight " + weight + " of " + e, desk.heaviest(), weight);
            }
        }
    }

    // "(0 at the start)", of the weight
    private static void weightIs0AtTheStart() {
        for (int e = 0; e < 8; e++) {
            due("first weight of " + e, weightOf(new MatroidDesk(), e), 0);
        }
    }

    // "of a set argument only the eight lowest bits are looked at"
    private static void onlyEightBitsOfASetAreLookedAt() {
        int[] higherBits = {0, 256, -256, LEAST, GREATEST - 255, 1 << 30, 0x5a5a5a00};
        for (int set = 0; set < 256; set++) {
            // A new one for each set: later than the 512th call an answer is free.
            MatroidDesk desk = units();
            for (int higher : higherBits) {
                int argument = higher + set;
                due("rank(" + argument + ")", desk.rank(argument), Integer.bitCount(set % 32));
                due("closure(" + argument + ")", desk.closure(argument), set | 224);
            }
        }
        MatroidDesk desk = units();
        for (int b = 8; b < 32; b++) {
            due("rank(1 << " + b + ")", desk.rank(1 << b), 0);
            due("rank(3 + (1 << " + b + "))", desk.rank(3 + (1 << b)), 2);
            due("closure(1 << " + b + ")", desk.closure(1 << b), 224);
            due("closure(3 + (1 << " + b + "))", desk.closure(3 + (1 << b)), 224 + 3);
        }
    }

    // "A set is DEPENDENT if some subset of it that is not empty has vectors whose exclusive-or
    // (bit by bit) is 0": the whole set or a smaller one, and no sum but the exclusive-or.
    private static void aSubsetThatSumsTo0MakesASetDependent() {
        due("rank of 1 2 4 8 16 31, whole", withVectors(1, 2, 4, 8, 16, 31).rank(63), 5);
        due("rank of 5 5", withVectors(5, 5).rank(3), 1);
        due("rank of 5 5 2, a part", withVectors(5, 5, 2).rank(7), 2);
        due("rank of 5 2 5, a part", withVectors(5, 2, 5).rank(7), 2);
        due("rank of 2 5 5, a part", withVectors(2, 5, 5).rank(7), 2);
        due("rank of 1 2 3 4, a part", withVectors(1, 2, 3, 4).rank(15), 3);
        due("rank of 16 16, though 16 + 16 is 32", withVectors(16, 16).rank(3), 1);
        due("rank of 1 31, though 1 + 31 is 32", withVectors(1, 31).rank(3), 2);
        due("rank of 3 5 8, though 3 + 5 is 8", withVectors(3, 5, 8).rank(7), 3);
        due("rank of 1 3 2, no bit in all", withVectors(1, 3, 2).rank(7), 2);
    }

    // "(The empty set is independent"
    private static void theEmptySetIsIndependent() {
        MatroidDesk desk = new MatroidDesk();
        due("empty set, as a base: bases()", desk.bases(), 1);
        due("empty set, as a base: heaviest()", desk.heaviest(), 0);
        due("empty set, no circuit, but each element alone is: circuits()", desk.circuits(), 8);
        due("empty set, as a rainbow: rainbow()", desk.rainbow(), 0);
        due("empty set, united with itself: union()", desk.union(), 0);
        due("rank(0)", desk.rank(0), 0);
    }

    // "an element with vector 0 alone is dependent.)"
    private static void anElementWithVector0AloneIsDependent() {
        for (int e = 0; e < 8; e++) {
            MatroidDesk desk = parallel();
            desk.vector(e, 0);
            String only = "vector 0 of " + e + " alone: ";
            due(only + "rank of it", desk.rank(1 << e), 0);
            due(only + "rank of all", desk.rank(255), 1);
            due(only + "closure(0)", desk.closure(0), 1 << e);
            due(only + "bases()", desk.bases(), 7);
            due(only + "circuits()", desk.circuits(), 1 + 21);
        }
    }

    // "The RANK of a set is the greatest number of elements of an independent subset of it."
    private static void rankIsThatOfTheGreatestIndependentSubset() {
        MatroidDesk desk = withVectors(0, 7, 7, 7, 0, 9, 9, 16);
        due("rank of elements of vector 0, the empty subset", desk.rank(1 + 16), 0);
        due("rank of 0 7 7 7 0", desk.rank(31), 1);
        due("rank of 0 7 7 7 0 9 9", desk.rank(127), 2);
        due("rank of 0 7 7 7 0 9 9 16", desk.rank(255), 3);
        due("rank of a set that is independent itself", units().rank(31), 5);
        due("rank of seven elements of the cube", cube().rank(254), 4);
    }

    // "A BASE is an independent set with as many elements as the rank of the set of all elements."
    private static void basesHaveTheRankOfAllElements() {
        due("bases() of rank 0, the empty set", new MatroidDesk().bases(), 1);
        due("bases() of rank 1, each element", parallel().bases(), 8);
        due("bases() of rank 5, one", units().bases(), 1);
        due("bases() of the cube, independent sets of four", cube().bases(), 70 - 14);
        // 9 sets of two elements are independent too, but the rank is 3.
        due("bases() of 1 1 1 2 2 2 4", withVectors(1, 1, 1, 2, 2, 2, 4).bases(), 9);
    }

    // ---- Promise 1

    // "MatroidDesk(): As said above."
    private static void aNewObjectStartsAnew() {
        MatroidDesk used = cube();
        for (int e = 0; e < 8; e++) {
            used.colour(e, 0);
            used.weight(e, 100);
        }
        MatroidDesk desk = new MatroidDesk();
        due("new: rank(255)", desk.rank(255), 0);
        due("new: closure(0)", desk.closure(0), 255);
        due("new: closure(255)", desk.closure(255), 255);
        due("new: bases()", desk.bases(), 1);
        due("new: polynomial(9, 3)", desk.polynomial(9, 3), 6561);
        due("new: rainbow()", desk.rainbow(), 0);
        due("new: heaviest()", desk.heaviest(), 0);
        due("new: circuits()", desk.circuits(), 8);
        due("new: union()", desk.union(), 0);
        giveVectors(desk, 1, 2, 4, 8, 16);
        due("new with vectors: rainbow()", desk.rainbow(), 5);
        due("new with vectors: heaviest()", desk.heaviest(), 0);
        due("the other object: rank(255)", used.rank(255), 4);
        due("the other object: rainbow()", used.rainbow(), 1);
        due("the other object: heaviest()", used.heaviest(), 400);
    }

    // ---- Promise 2

    // "Element e & 7 gets"
    private static void vectorTakesTheElementAnd7() {
        for (int e : wideNumbers()) {
            MatroidDesk desk = withOnly(e);
            int element = Math.floorMod(e, 8);
            for (int other = 0; other < 8; other++) {
                int want = other == element ? 1 : 0;
                due("after vector(" + e + ", 1): rank of " + other, desk.rank(1 << other), want);
            }
        }
    }

    // "the vector vector & 31."
    private static void vectorTakesTheVectorAnd31() {
        for (int vector : wideNumbers()) {
            MatroidDesk desk = new MatroidDesk();
            desk.vector(6, vector);
            due("after vector(6, " + vector + ")", vectorOf(desk, 6), Math.floorMod(vector, 32));
        }
        for (int vector = -70; vector <= 70; vector++) {
            MatroidDesk desk = withVectors(31, 31, 31);
            desk.vector(2, vector);
            due("after vector(2, " + vector + ")", vectorOf(desk, 2), Math.floorMod(vector, 32));
        }
    }

    // "gets": nothing of the old vector stays, and nothing else changes.
    private static void vectorChangesNothingElse() {
        MatroidDesk desk = new MatroidDesk();
        desk.colour(3, 5);
        desk.weight(3, -60);
        desk.vector(3, 31);
        desk.vector(3, 4);
        due("vector 31, then 4", vectorOf(desk, 3), 4);
        desk.vector(3, 0);
        due("vector 4, then 0", vectorOf(desk, 3), 0);
        due("colour after vector", colourOf(desk, 3), 5);
        due("weight after vector", weightOf(desk, 3), -60);
    }

    // ---- Promise 3

    // "Element e & 7 gets"
    private static void colourTakesTheElementAnd7() {
        for (int e : wideNumbers()) {
            int element = Math.floorMod(e, 8);
            int colour = (element + 3) % 8;
            for (int other = 0; other < 8; other++) {
                MatroidDesk desk = new MatroidDesk();
                desk.colour(e, colour);
                int want = other == element ? colour : other;
                due("after colour(" + e + ", " + colour + "): colour of " + other,
                    colourOf(desk, other), want);
            }
        }
    }

    // "the colour colour & 7."
    private static void colourTakesTheColourAnd7() {
        for (int colour : wideNumbers()) {
            MatroidDesk desk = new MatroidDesk();
            desk.colour(2, colour);
            due("after colour(2, " + colour + ")", colourOf(desk, 2), Math.floorMod(colour, 8));
        }
        for (int colour = -20; colour <= 20; colour++) {
            MatroidDesk desk = new MatroidDesk();
            desk.colour(7, colour);
            due("after colour(7, " + colour + ")", colourOf(desk, 7), Math.floorMod(colour, 8));
        }
    }

    // "gets": nothing of the old colour stays, and nothing else changes.
    private static void colourChangesNothingElse() {
        MatroidDesk desk = withOnly(4);
        desk.weight(4, 33);
        desk.colour(4, 7);
        desk.colour(4, 2);
        due("vector after colour", vectorOf(desk, 4), 1);
        due("weight after colour", weightOf(desk, 4), 33);
        due("colour 7, then 2", colourOf(desk, 4), 2);
    }

    // ---- Promise 4

    // "Element e & 7 gets the weight"
    private static void weightTakesTheElementAnd7() {
        for (int e : wideNumbers()) {
            int element = Math.floorMod(e, 8);
            for (int other = 0; other < 8; other++) {
                MatroidDesk desk = withOnly(other);
                desk.weight(e, -17);
                int want = other == element ? -17 : 0;
                due("after weight(" + e + ", -17): weight of " + other, desk.heaviest(), want);
            }
        }
    }

    // "less than -100 becomes -100"
    private static void weightBelowMinus100BecomesMinus100() {
        for (int weight : new int[] {-101, -102, -128, -200, -256, -65536, LEAST + 1, LEAST}) {
            MatroidDesk desk = withOnly(0);
            desk.weight(0, weight);
            due("after weight(0, " + weight + ")", desk.heaviest(), -100);
        }
        MatroidDesk desk = withOnly(0);
        desk.weight(0, -100);
        due("after weight(0, -100)", desk.heaviest(), -100);
        desk.weight(0, -99);
        due("after weight(0, -99)", desk.heaviest(), -99);
    }

    // "more than 100 becomes 100."
    private static void weightAbove100Becomes100() {
        for (int weight : new int[] {101, 102, 128, 200, 256, 65536, GREATEST - 1, GREATEST}) {
            MatroidDesk desk = withOnly(7);
            desk.weight(7, weight);
            due("after weight(7, " + weight + ")", desk.heaviest(), 100);
        }
        MatroidDesk desk = withOnly(7);
        desk.weight(7, 100);
        due("after weight(7, 100)", desk.heaviest(), 100);
        desk.weight(7, 99);
        due("after weight(7, 99)", desk.heaviest(), 99);
    }

    // "gets": nothing of the old weight stays, and nothing else changes.
    private static void weightChangesNothingElse() {
        MatroidDesk desk = withOnly(1);
        desk.colour(1, 6);
        desk.weight(1, 500);
        desk.weight(1, -3);
        due("weight 100, then -3", desk.heaviest(), -3);
        due("vector after weight", vectorOf(desk, 1), 1);
        due("colour after weight", colourOf(desk, 1), 6);
    }

    // ---- Promise 5

    // "The rank of the set.": of the empty one, of one element, of all.
    private static void rankOfTheEmptyAndTheFullSet() {
        MatroidDesk[] desks = {new MatroidDesk(), parallel(), cube(), units()};
        int[] full = {0, 1, 4, 5};
        for (int i = 0; i < desks.length; i++) {
            due("rank(0) where all have rank " + full[i], desks[i].rank(0), 0);
            due("rank(255) where all have rank " + full[i], desks[i].rank(255), full[i]);
        }
        for (int vector = 0; vector < 32; vector++) {
            due("rank of one element of vector " + vector,
                withVectors(vector).rank(1), vector == 0 ? 0 : 1);
        }
        due("rank(255), never more than 5", withVectors(31, 15, 7, 3, 1, 16, 8, 4).rank(255), 5);
    }

    // ---- Promise 6

    // "The set of all elements e such that the set with e added has the same rank as the set.":
    // the empty set with an element of vector 0 added has the same rank.
    private static void closureOfTheEmptySet() {
        due("closure(0), no vector 0", cube().closure(0), 0);
        due("closure(0), three vectors 0", units().closure(0), 224);
        due("closure(0), all vectors 0", new MatroidDesk().closure(0), 255);
    }

    // The same sentence: an element of the set adds nothing to it, so it is in the closure.
    private static void closureHoldsTheSet() {
        MatroidDesk desk = withVectors(1, 2, 4, 8, 16, 31, 3, 0);
        for (int set = 0; set < 256; set++) {
            due("elements of " + set + " that are not in its closure", set & ~desk.closure(set), 0);
        }
    }

    // The same sentence: to a set of the greatest rank no element adds any.
    private static void closureOfASetOfTheGreatestRank() {
        due("closure(255), new", new MatroidDesk().closure(255), 255);
        due("closure(255), units", units().closure(255), 255);
        due("closure of a base, units", units().closure(31), 255);
        due("closure of a base, cube", cube().closure(1 + 2 + 4 + 16), 255);
        due("closure of one of parallel elements", parallel().closure(128), 255);
        due("closure of all but one, of rank less", units().closure(255 - 16), 255 - 16);
    }

    // ---- Promise 7

    // "How many bases there are.": at least the empty one.
    private static void basesNeverFewerThanOne() {
        MatroidDesk desk = units();
        for (int e = 0; e < 5; e++) {
            due("bases() of " + (5 - e) + " free elements", desk.bases(), 1);
            desk.vector(e, 0);
        }
        due("bases() with every vector set back to 0", desk.bases(), 1);
    }

    // ---- Promise 8

    // "z^0 is 1, also for z = 0", with z = x - 1: the sets of full rank count.
    private static void powerOf0IsOneForX() {
        due("polynomial(1, 3), new", new MatroidDesk().polynomial(1, 3), 6561);
        due("polynomial(1, 2), units", units().polynomial(1, 2), 8);
        due("polynomial(1, 2), parallel", parallel().polynomial(1, 2), 255);
        due("polynomial(1, 0), new", new MatroidDesk().polynomial(1, 0), 0);
    }

    // "z^0 is 1, also for z = 0", with z = y - 1: the independent sets count.
    private static void powerOf0IsOneForY() {
        due("polynomial(4, 1), new", new MatroidDesk().polynomial(4, 1), 1);
        due("polynomial(2, 1), units", units().polynomial(2, 1), 32);
        due("polynomial(2, 1), parallel", parallel().polynomial(2, 1), 9);
        due("polynomial(0, 1), units", units().polynomial(0, 1), 0);
    }

    // "z^0 is 1, also for z = 0", with both: the bases count.
    private static void powerOf0IsOneForBoth() {
        due("polynomial(1, 1), new", new MatroidDesk().polynomial(1, 1), 1);
        due("polynomial(1, 1), units", units().polynomial(1, 1), 1);
        due("polynomial(1, 1), parallel", parallel().polynomial(1, 1), 8);
        due("polynomial(1, 1), cube", cube().polynomial(1, 1), 70 - 14);
    }

    // "over all sets A of elements", the empty one and the full one too.
    private static void theSumGoesOverAllSets() {
        due("polynomial(2, 2), new", new MatroidDesk().polynomial(2, 2), 256);
        due("polynomial(2, 2), cube", cube().polynomial(2, 2), 256);
        // Sets of an odd and of an even number of elements cancel out, so one left out would show.
        due("polynomial(0, 0), new", new MatroidDesk().polynomial(0, 0), 0);
        due("polynomial(0, 0), cube", cube().polynomial(0, 0), 0);
        // The empty set alone makes x^5; the full set alone the highest power of y.
        due("polynomial(11, 1), units", units().polynomial(11, 1), 161051);
        due("polynomial(1, 11), new", new MatroidDesk().polynomial(1, 11), 214358881);
    }

    // "wrapping as in Java": the last value that fits, and the first that doesn't.
    private static void polynomialWraps() {
        MatroidDesk zeros = new MatroidDesk();
        due("polynomial(0, 14), 14^8 fits", zeros.polynomial(0, 14), 1475789056);
        due("polynomial(0, 15), 15^8 doesn't", zeros.polynomial(0, 15), -1732076671);
        due("polynomial(0, 16), 16^8 is 2^32", zeros.polynomial(0, 16), 0);
        due("polynomial(0, -15)", zeros.polynomial(0, -15), -1732076671);
        MatroidDesk free = units();
        due("polynomial(73, 1), 73^5 fits", free.polynomial(73, 1), 2073071593);
        due("polynomial(74, 1), 74^5 doesn't", free.polynomial(74, 1), -2075960672);
        due("polynomial(-73, 1)", free.polynomial(-73, 1), -2073071593);
        due("polynomial(-74, 1)", free.polynomial(-74, 1), 2075960672);
        MatroidDesk one = parallel();
        due("polynomial(greatest, 0)", one.polynomial(GREATEST, 0), GREATEST);
        due("polynomial(greatest, 1)", one.polynomial(GREATEST, 1), LEAST + 6);
        due("polynomial(greatest - 7, 1)", one.polynomial(GREATEST - 7, 1), GREATEST);
        due("polynomial(greatest - 6, 1)", one.polynomial(GREATEST - 6, 1), LEAST);
    }

    // "wrapping as in Java", in x - 1 and y - 1 and in every product after them.
    private static void polynomialWrapsFromTheLeastNumbers() {
        int[] numbers = {LEAST, LEAST + 1, LEAST + 2, GREATEST, GREATEST - 1, -1, 0, 1, 65537, -65537};
        for (int x : numbers) {
            for (int y : numbers) {
                String at = "polynomial(" + x + ", " + y + "), ";
                due(at + "new", new MatroidDesk().polynomial(x, y), product(x, 0, y, 8));
                due(at + "one", withOnly(5).polynomial(x, y), product(x, 1, y, 7));
                due(at + "units", units().polynomial(x, y), product(x, 5, y, 3));
            }
        }
    }

    // Free elements multiply by x, those of vector 0 by y. Wraps once, at the end.
    private static int product(int x, int free, int y, int zeros) {
        BigInteger left = BigInteger.valueOf(x).pow(free);
        return left.multiply(BigInteger.valueOf(y).pow(zeros)).intValue();
    }

    // ---- Promise 9

    // "The greatest number of elements of an independent set whose elements all have different
    // colours.": none, one, and as many as the rank allows.
    private static void rainbowFromNoneToTheRank() {
        due("rainbow(), all vectors 0", new MatroidDesk().rainbow(), 0);
        due("rainbow(), parallel of eight colours", parallel().rainbow(), 1);
        due("rainbow(), rank 4 and eight colours", cube().rainbow(), 4);
        due("rainbow(), rank 5 and eight colours", units().rainbow(), 5);
    }

    // The same sentence: all of one colour, then one more colour each time.
    private static void rainbowFromOneColourToMore() {
        for (int colour = 0; colour < 8; colour++) {
            MatroidDesk desk = units();
            for (int e = 0; e < 8; e++) {
                desk.colour(e, colour);
            }
            due("rainbow(), all of colour " + colour, desk.rainbow(), 1);
            for (int e = 1; e < 5; e++) {
                desk.colour(e, colour + e);
                due("rainbow(), " + (e + 1) + " colours from " + colour, desk.rainbow(), e + 1);
            }
        }
    }

    // The same sentence: each two elements of one colour keep each other out.
    private static void rainbowHoldsNoTwoOfOneColour() {
        for (int a = 0; a < 8; a++) {
            for (int b = 0; b < 8; b++) {
                if (a != b) {
                    MatroidDesk desk = withOnly(a);
                    desk.vector(b, 2);
                    due("rainbow() of " + a + " and " + b, desk.rainbow(), 2);
                    desk.colour(b, a);
                    due("rainbow() of " + a + " and " + b + ", one colour", desk.rainbow(), 1);
                }
            }
        }
    }

    // ---- Promise 10

    // "The greatest sum of weights of a base.": the empty base's sum is 0.
    private static void heaviestOfTheEmptyBase() {
        MatroidDesk desk = new MatroidDesk();
        for (int e = 0; e < 8; e++) {
            desk.weight(e, -100);
        }
        due("heaviest(), rank 0, weights -100", desk.heaviest(), 0);
        for (int e = 0; e < 8; e++) {
            desk.weight(e, 100);
        }
        due("heaviest(), rank 0, weights 100", desk.heaviest(), 0);
    }

    // The same sentence: a base is taken whole, however little its elements weigh.
    private static void heaviestBelow0() {
        MatroidDesk desk = units();
        for (int e = 0; e < 8; e++) {
            desk.weight(e, -100);
            due("heaviest(), " + (e + 1) + " of -100", desk.heaviest(), -100 * Math.min(e + 1, 5));
        }
        MatroidDesk one = parallel();
        for (int e = 0; e < 8; e++) {
            one.weight(e, -10 - e);
        }
        due("heaviest(), the least far below 0", one.heaviest(), -10);
    }

    // The same sentence: the sum of no more than a base, however much the others weigh.
    private static void heaviestOfNoMoreThanABase() {
        MatroidDesk free = units();
        MatroidDesk one = parallel();
        MatroidDesk four = cube();
        for (int e = 0; e < 8; e++) {
            free.weight(e, 100);
            one.weight(e, 100);
            four.weight(e, 100);
        }
        due("heaviest(), five of 100, the greatest there is", free.heaviest(), 500);
        due("heaviest(), parallel", one.heaviest(), 100);
        due("heaviest(), cube", four.heaviest(), 400);
    }

    // ---- Promise 11

    // "dependent, while every set that comes from it by leaving out one element is independent":
    // one element of vector 0, which leaves the empty set.
    private static void circuitOfOneElement() {
        MatroidDesk desk = units();
        due("circuits(), three vectors 0", desk.circuits(), 3);
        for (int e = 4; e >= 0; e--) {
            desk.vector(e, 0);
            due("circuits(), " + (8 - e) + " vectors 0", desk.circuits(), 8 - e);
        }
    }

    // The same sentence: six elements, the most that a circuit can have, wherever they stand.
    private static void circuitOfSixElements() {
        int[] cycle = {1, 2, 4, 8, 16, 31};
        for (int a = 0; a < 8; a++) {
            for (int b = a + 1; b < 8; b++) {
                MatroidDesk desk = new MatroidDesk();
                int next = 0;
                for (int e = 0; e < 8; e++) {
                    if (e != a && e != b) {
                        desk.vector(e, cycle[next]);
                        next++;
                    }
                }
                due("circuits(), six without " + a + " and " + b, desk.circuits(), 1 + 2);
            }
        }
    }

    // The same sentence: one set left over that is dependent is enough to make it no circuit.
    private static void dependentRestMakesNoCircuit() {
        for (int zero = 0; zero < 8; zero++) {
            MatroidDesk desk = cube();
            desk.vector(zero, 0);
            // The seven fours of the cube that hold the element are gone.
            due("circuits(), cube without " + zero, desk.circuits(), 7 + 1);
        }
        due("circuits(), two pairs", withVectors(1, 1, 2, 2, 4, 8, 16, 0).circuits(), 2 + 1);
    }

    // ---- Promise 12

    // "The greatest number of elements of the union of two independent sets.": both empty, both
    // the same, and from there to all eight elements.
    private static void unionFromNoneToAll() {
        due("union(), the empty set twice", new MatroidDesk().union(), 0);
        due("union(), one element, once or twice", withOnly(6).union(), 1);
        due("union(), rank 1, two of eight", parallel().union(), 2);
        due("union(), one base only, each element once", units().union(), 5);
        due("union(), rank 3, six of eight", withVectors(1, 2, 4, 1, 2, 4, 1, 2).union(), 6);
        due("union(), rank 5, seven of eight", withVectors(1, 2, 4, 8, 16, 1, 1, 2).union(), 7);
        due("union(), rank 4, all", cube().union(), 8);
        due("union(), rank 5, all", withVectors(1, 2, 4, 8, 16, 1, 2, 4).union(), 8);
    }

    private static void testWhatItIsAndTerms() {
        the512thCallIsAnswered();
        everyElementCounts();
        everyVectorFrom0To31IsKept();
        vectorIs0AtTheStart();
        everyColourFrom0To7IsKept();
        colourIsTheElementAtTheStart();
        everyWeightFromMinus100To100IsKept();
        weightIs0AtTheStart();
        onlyEightBitsOfASetAreLookedAt();
        aSubsetThatSumsTo0MakesASetDependent();
        theEmptySetIsIndependent();
        anElementWithVector0AloneIsDependent();
        rankIsThatOfTheGreatestIndependentSubset();
        basesHaveTheRankOfAllElements();
    }

    private static void testPromises1To4() {
        aNewObjectStartsAnew();
        vectorTakesTheElementAnd7();
        vectorTakesTheVectorAnd31();
        vectorChangesNothingElse();
        colourTakesTheElementAnd7();
        colourTakesTheColourAnd7();
        colourChangesNothingElse();
        weightTakesTheElementAnd7();
        weightBelowMinus100BecomesMinus100();
        weightAbove100Becomes100();
        weightChangesNothingElse();
    }

    private static void testPromises5To8() {
        rankOfTheEmptyAndTheFullSet();
        closureOfTheEmptySet();
        closureHoldsTheSet();
        closureOfASetOfTheGreatestRank();
        basesNeverFewerThanOne();
        powerOf0IsOneForX();
        powerOf0IsOneForY();
        powerOf0IsOneForBoth();
        theSumGoesOverAllSets();
        polynomialWraps();
        polynomialWrapsFromTheLeastNumbers();
    }

    private static void testPromises9To12() {
        rainbowFromNoneToTheRank();
        rainbowFromOneColourToMore();
        rainbowHoldsNoTwoOfOneColour();
        heaviestOfTheEmptyBase();
        heaviestBelow0();
        heaviestOfNoMoreThanABase();
        circuitOfOneElement();
        circuitOfSixElements();
        dependentRestMakesNoCircuit();
        unionFromNoneToAll();
    }

    public static void main(String[] args) {
        testWhatItIsAndTerms();
        testPromises1To4();
        testPromises5To8();
        testPromises9To12();
        System.out.println(wrong == 0 ? "all answers are as due" : wrong + " answers are not as due");
        if (wrong != 0) {
            System.exit(1);
        }
    }
}
