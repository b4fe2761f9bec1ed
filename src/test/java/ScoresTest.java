/** Promises 13 to 22: weights, biases, constraints and settings. */
public final class ScoresTest {
    private static final String[] WILD = {"-2147483648", "2147483647"};

    public static void main(String[] args) {
        tagWeights();
        distanceWeights();
        biases();
        constraints();
        settings();
        scores();
        Script.end();
    }

    private static void tagWeights() {
        new Script("13: setTagWeight").calls("setTagWeight(0, 0, 99) = 0; setTagWeight(0, 0, -99) = 99; tagWeight(0, 0) = -99;"
            + "setTagWeight(8, 7, 1) = 0; tagWeight(8, 7) = 1; tagWeight(7, 7) = 0; setTagWeight(3, 5, 2) = 0;"
            + "tagWeight(5, 3) = 0; tagWeight(3, 5) = 2; setTagWeight(0, 0, 100) = BAD_VALUE;"
            + "setTagWeight(0, 0, -100) = BAD_VALUE; tagWeight(0, 0) = -99; setTagWeight(9, 0, 1) = BAD_INDEX;"
            + "setTagWeight(-1, 0, 1) = BAD_INDEX; setTagWeight(0, 8, 1) = BAD_INDEX; setTagWeight(0, -1, 1) = BAD_INDEX;"
            + "setTagWeight(8, 8, 1) = BAD_INDEX; setTagWeight(9, 0, 100) = BAD_INDEX; setTagWeight(0, 8, -100) = BAD_INDEX");
        new Script("20: tagWeight").calls("setTagWeight(8, 0, 7) = 0; setTagWeight(7, 7, -7) = 0; tagWeight(8, 0) = 7;"
            + "tagWeight(7, 7) = -7; tagWeight(9, 0) = BAD_INDEX; tagWeight(0, 8) = BAD_INDEX; tagWeight(-1, 0) = BAD_INDEX;"
            + "tagWeight(0, -1) = BAD_INDEX; tagWeight(8, 8) = BAD_INDEX");
        for (String wild : WILD) {
            new Script("13, 20: wild").calls("setTagWeight(" + wild + ", 0, 0) = BAD_INDEX; setTagWeight(0, " + wild
                + ", 0) = BAD_INDEX; setTagWeight(0, 0, " + wild + ") = BAD_VALUE; tagWeight(" + wild
                + ", 0) = BAD_INDEX; tagWeight(0, " + wild + ") = BAD_INDEX");
        }
    }

    private static void distanceWeights() {
        new Script("14: setDistanceWeight").calls("setDistanceWeight(0, 1, 99) = 0; setDistanceWeight(0, 1, -99) = 99;"
            + "distanceWeight(0, 1) = -99; distanceWeight(1, 1) = 0; setDistanceWeight(1, 6, 4) = 0;"
            + "setDistanceWeight(1, 6, 5) = 4; setDistanceWeight(0, 6, 3) = 0; distanceWeight(1, 6) = 5;"
            + "setDistanceWeight(0, 1, 100) = BAD_VALUE; setDistanceWeight(0, 1, -100) = BAD_VALUE;"
            + "distanceWeight(0, 1) = -99; setDistanceWeight(2, 1, 0) = BAD_INDEX; setDistanceWeight(-1, 1, 0) = BAD_INDEX;"
            + "setDistanceWeight(0, 0, 0) = BAD_INDEX; setDistanceWeight(0, 7, 0) = BAD_INDEX;"
            + "setDistanceWeight(0, -1, 0) = BAD_INDEX; setDistanceWeight(2, 1, 100) = BAD_INDEX;"
            + "setDistanceWeight(0, 7, 100) = BAD_INDEX");
        new Script("21: distanceWeight").calls("setDistanceWeight(1, 2, 8) = 0; distanceWeight(1, 2) = 8;"
            + "distanceWeight(0, 2) = 0; distanceWeight(1, 0) = BAD_INDEX; distanceWeight(1, 7) = BAD_INDEX;"
            + "distanceWeight(2, 2) = BAD_INDEX; distanceWeight(-1, 2) = BAD_INDEX; distanceWeight(0, -1) = BAD_INDEX");
        for (String wild : WILD) {
            new Script("14, 21: wild").calls("setDistanceWeight(" + wild + ", 1, 0) = BAD_INDEX; setDistanceWeight(0, " + wild
                + ", 0) = BAD_INDEX; setDistanceWeight(0, 1, " + wild + ") = BAD_VALUE; distanceWeight(" + wild
                + ", 1) = BAD_INDEX; distanceWeight(0, " + wild + ") = BAD_INDEX");
        }
    }

    private static void biases() {
        new Script("15: setBias").store("A0B1;C0;").calls("setBias(0, 0, 1, 99) = 0; setBias(0, 0, 1, -99) = 99;"
            + "score(0, 0, 1) = -99; score(0, 2, 1) = 0; score(1, 0, 1) = 0; setBias(0, 1, 2, 3) = 0; score(0, 1, 2) = 3;"
            + "score(0, 2, 1) = 0; setBias(0, 0, 1, 100) = BAD_VALUE; setBias(0, 0, 1, -100) = BAD_VALUE;"
            + "setBias(0, 0, 1, 0) = -99; setBias(0, 1, 1, 0) = BAD_INDEX; setBias(0, 3, 1, 0) = BAD_INDEX;"
            + "setBias(0, -1, 1, 0) = BAD_INDEX; setBias(0, 0, 0, 0) = BAD_INDEX; setBias(0, 1, 0, 0) = BAD_INDEX;"
            + "setBias(0, 0, 3, 0) = BAD_INDEX; setBias(2, 0, 1, 0) = BAD_INDEX; setBias(-1, 0, 1, 0) = BAD_INDEX;"
            + "setBias(2, 0, 1, 100) = BAD_INDEX; setBias(0, 1, 1, 100) = BAD_INDEX; setBias(1, 1, 2, 0) = BAD_INDEX");
        for (String wild : WILD) {
            new Script("15: wild").store("A0;").calls("setBias(" + wild + ", 0, 1, 0) = BAD_INDEX; setBias(0, " + wild
                + ", 1, 0) = BAD_INDEX; setBias(0, 0, " + wild + ", 0) = BAD_INDEX; setBias(0, 0, 1, " + wild
                + ") = BAD_VALUE");
        }
    }

    private static void constraints() {
        new Script("16: constrain").store("A0B1;C0;").calls("constrain(0, 0, 1, 2) = 0; treeCount(0) = 1;"
            + "constrain(0, 0, 1, 1) = 2; treeCount(0) = 2; constrain(0, 0, 1, 0) = 1; treeCount(0) = 3;"
            + "constrain(0, 0, 1, 3) = BAD_VALUE; constrain(0, 0, 1, -1) = BAD_VALUE; constrain(0, 0, 1, 0) = 0;"
            + "constrain(0, 1, 1, 0) = BAD_INDEX; constrain(0, 3, 1, 0) = BAD_INDEX; constrain(0, -1, 1, 0) = BAD_INDEX;"
            + "constrain(0, 1, 0, 0) = BAD_INDEX; constrain(0, 0, 3, 0) = BAD_INDEX; constrain(2, 0, 1, 0) = BAD_INDEX;"
            + "constrain(-1, 0, 1, 0) = BAD_INDEX; constrain(0, 1, 1, 3) = BAD_INDEX; constrain(2, 0, 1, 3) = BAD_INDEX;"
            + "constrain(1, 0, 1, 2) = 0; treeCount(1) = 0; treeCount(0) = 3");
        new Script("16: two required heads").store("A0B1C1;").calls("constrain(0, 0, 1, 1) = 0; treeCount(0) = 8;"
            + "constrain(0, 2, 1, 1) = 0; treeCount(0) = 0; bestScore(0) = NONE; constrain(0, 0, 1, 2) = 1; treeCount(0) = 4");
        new Script("16: a required cycle").store("A0B1C1;").calls("constrain(0, 1, 2, 1) = 0; constrain(0, 2, 1, 1) = 0;"
            + "treeCount(0) = 0; bestHead(0, 3) = NONE; constrain(0, 2, 1, 0) = 1; treeCount(0) = 4");
        new Script("16: required and forbidden").store("A0B1;").calls("constrain(0, 1, 2, 1) = 0; bestHead(0, 2) = 1;"
            + "constrain(0, 0, 1, 2) = 0; treeCount(0) = 0; bestHead(0, 1) = NONE");
        for (String wild : WILD) {
            new Script("16: wild").store("A0;").calls("constrain(" + wild + ", 0, 1, 0) = BAD_INDEX; constrain(0, " + wild
                + ", 1, 0) = BAD_INDEX; constrain(0, 0, " + wild + ", 0) = BAD_INDEX; constrain(0, 0, 1, " + wild
                + ") = BAD_VALUE");
        }
    }

    private static void settings() {
        new Script("17: setSingleRoot").store("A0B0C0;").calls("bestHead(0, 2) = 0; setSingleRoot(true) = 0;"
            + "setSingleRoot(true) = 1; treeCount(0) = 9; bestHead(0, 2) = 1; setSingleRoot(false) = 1;"
            + "setSingleRoot(false) = 0; treeCount(0) = 16; setProjective(false) = 0");
        new Script("18: setProjective").store("A0B0C0;").calls("setProjective(true) = 0; setProjective(true) = 1;"
            + "treeCount(0) = 12; setProjective(false) = 1; setProjective(false) = 0; treeCount(0) = 16;"
            + "setSingleRoot(true) = 0; setProjective(true) = 0; treeCount(0) = 7");
        new Script("19: setShift").store("A0;").calls("weightSum(0) = 10; setShift(100) = 10; weightSum(0) = 20;"
            + "setShift(-100) = 100; weightSum(0) = 0; setShift(101) = BAD_VALUE; setShift(-101) = BAD_VALUE;"
            + "setShift(2147483647) = BAD_VALUE; setShift(-2147483648) = BAD_VALUE; setShift(3) = -100; weightSum(0) = 3;"
            + "setShift(0) = 3; score(0, 0, 1) = 0; bestScore(0) = 0");
    }

    private static void scores() {
        new Script("22: score").store("A0B1C2;").calls("setTagWeight(8, 1, 10) = 0; setDistanceWeight(0, 2, 20) = 0;"
            + "setBias(0, 0, 2, 40) = 0; score(0, 0, 2) = 70; setTagWeight(2, 1, -5) = 0; score(0, 3, 2) = -5;"
            + "setDistanceWeight(1, 1, -7) = 0; score(0, 3, 2) = -12; score(0, 2, 3) = 0; score(0, 2, 1) = -7;"
            + "setDistanceWeight(1, 2, 11) = 0; score(0, 3, 1) = 11; score(0, 1, 3) = 20; setBias(0, 3, 1, -99) = 0;"
            + "score(0, 3, 1) = -88; score(0, 0, 0) = BAD_INDEX; score(0, 1, 1) = BAD_INDEX; score(0, 4, 1) = BAD_INDEX;"
            + "score(0, -1, 1) = BAD_INDEX; score(0, 1, 0) = BAD_INDEX; score(0, 1, 4) = BAD_INDEX; score(1, 0, 1) = BAD_INDEX;"
            + "score(-1, 0, 1) = BAD_INDEX; score(0, 2147483647, 1) = BAD_INDEX; score(0, 0, -2147483648) = BAD_INDEX");
        // The farthest arcs of the longest sentence.
        new Script("22: distance 6").store("A0B0C0D0E0H1;").calls("setDistanceWeight(0, 6, 5) = 0; score(0, 0, 6) = 5;"
            + "setDistanceWeight(1, 5, 6) = 0; score(0, 6, 1) = 6; setTagWeight(8, 7, 1) = 0; score(0, 0, 6) = 6;"
            + "constrain(0, 0, 6, 2) = 0; score(0, 0, 6) = 6");
    }
}
