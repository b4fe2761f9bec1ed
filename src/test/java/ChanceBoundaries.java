/** The boundary cases of the promises 31 to 33: sums of weights, chances and the risk tree. */
final class ChanceBoundaries {
    /** Potentials for two words: the weights of the trees are 6 (00), 10 (01) and 24 (20). */
    private static final String TWO = "setShift(0) = 10; setBias(0, 0, 1, 2) = 0; setBias(0, 0, 2, 3) = 0; setBias(0, 1, 2, 5) = 0;"
        + "setBias(0, 2, 1, 8) = 0;";

    private ChanceBoundaries() {
    }

    static void run() {
        potential();
        weightSum();
        chance();
        chanceNone();
        riskHead();
    }

    private static void potential() {
        // With one word the weight of its only tree is the potential.
        Script script = new Script(Doc.says(31, "but at least 0 and at most 20")).store("A0;");
        for (int score = -15; score <= 15; score++) {
            int due = score < -10 ? 0 : score > 10 ? 20 : score + 10;
            script.calls("setTagWeight(8, 0, " + score + ") = " + (score == -15 ? 0 : score - 1) + "; weightSum(0) = " + due);
        }
        script.calls("setTagWeight(8, 0, 99) = 15; setDistanceWeight(0, 1, 99) = 0; setBias(0, 0, 1, 99) = 0; setShift(100) = 10;"
            + "weightSum(0) = 20; setShift(-100) = 100; weightSum(0) = 20; setTagWeight(8, 0, -99) = 99; setBias(0, 0, 1, -99) = 99;"
            + "weightSum(0) = 0; setShift(100) = -100; weightSum(0) = 1; setDistanceWeight(0, 1, 98) = 99; weightSum(0) = 0");
        // Two potentials below 0 would have a product above 0.
        new Script(Doc.says(31, "but at least 0 and at most 20") + ", two of them").store("A0B0;").calls("setShift(-3) = 10;"
            + "weightSum(0) = 0; treeCount(0) = 3");
        new Script(Doc.says(31, "The potential of an arc is its score plus the shift")).store("A0;").calls("setShift(5) = 10;"
            + "weightSum(0) = 5; setTagWeight(8, 0, 1) = 0; setDistanceWeight(0, 1, 2) = 0; setBias(0, 0, 1, 4) = 0; weightSum(0) = 12;"
            + "setShift(-6) = 5; weightSum(0) = 1; setShift(-7) = -6; weightSum(0) = 0");
        new Script(Doc.says(31, "The weight of a tree is the product of the potentials of its arcs.")).store("A0B0C0;").calls(
            "setShift(0) = 10; setBias(0, 0, 1, 2) = 0; setBias(0, 1, 2, 3) = 0; setBias(0, 2, 3, 5) = 0; weightSum(0) = 30;"
            + "setBias(0, 2, 3, 1) = 5; weightSum(0) = 6; setBias(0, 2, 3, 0) = 1; weightSum(0) = 0");
    }

    private static void weightSum() {
        Arguments.sentence(31, "weightSum(?)", "weightSum(0) = 16000; weightSum(3) = 300");
        String sum = Doc.says(31, "the sum of the weights of all admissible trees");
        new Script(sum).store("A0B0;").calls(TWO + "weightSum(0) = 40; constrain(0, 2, 1, 2) = 0; weightSum(0) = 16;"
            + "setSingleRoot(true) = 0; weightSum(0) = 10; constrain(0, 0, 2, 1) = 0; weightSum(0) = 0");
        new Script(sum + ", no tree").store("A0;").calls("weightSum(0) = 10; constrain(0, 0, 1, 2) = 0; weightSum(0) = 0");
        // 20 to the power of 6 for each of 16807 trees: far above what an int holds.
        new Script(sum + ", the greatest one").store("A0A0A0A0A0A0;").calls("setShift(100) = 10; weightSum(0) = 1075648000000;"
            + "setSingleRoot(true) = 0; weightSum(0) = 497664000000; setProjective(true) = 0; weightSum(0) = 46592000000");
        Twins.refused(Doc.says(31, "BAD_INDEX"), "weightSum(-1) = BAD_INDEX; weightSum(4) = BAD_INDEX");
    }

    private static void chance() {
        String terms = Doc.says(32, "The chance of an arc is the sum of the weights of all admissible trees that contain it, divided by"
            + " the sum of the weights of all admissible trees.");
        fractions(terms, TWO, "0 1 2 5", "0 2 3 4", "1 2 1 4", "2 1 3 5");
        fractions(terms, TWO + "setSingleRoot(true) = 0", "0 1 5 17", "0 2 12 17", "1 2 5 17", "2 1 12 17");
        String lowest = Doc.says(32, "the chance of an arc as a fraction in lowest terms with a denominator above 0 (0 is 0 / 1)");
        fractions(lowest + ", 0", "constrain(0, 1, 2, 2) = 0", "1 2 0 1", "0 2 1 1", "0 1 1 2", "2 1 1 2");
        fractions(lowest + ", 0 by its potential", "setBias(0, 1, 2, -10) = 0", "1 2 0 1", "0 2 1 1", "0 1 1 2");
        fractions(lowest + ", 1", "constrain(0, 0, 1, 1) = 0; constrain(0, 0, 2, 1) = 0", "0 1 1 1", "0 2 1 1", "1 2 0 1", "2 1 0 1");
        fractions(lowest + ", thirds", "", "0 1 2 3", "1 2 1 3", "2 1 1 3");
        // Of seven equal parts of the trees two have the arc from the root, with the potential 20, and one has each of the five
        // other arcs to word 1, with 19: these are 40 and 19 of 135.
        new Script(lowest + ", great sums").store("A0A0A0A0A0A0;").calls("setShift(19) = 10; setBias(0, 0, 1, 1) = 0;"
            + "chance(0, 0, 1, false) = 8; chance(0, 0, 1, true) = 27; chance(0, 6, 1, false) = 19; chance(0, 6, 1, true) = 135");
        Arguments.sentence(32, "chance(?, 0, 1, true)", "chance(0, 0, 1, true) = 2; chance(3, 0, 1, true) = 3");
        Arguments.head(32, "chance(S, ?, 2, false)", "constrain(0, 1, 2, 2) = 0; chance(0, 0, 2, false) = 2; chance(0, 1, 2, false) = 0;"
            + "chance(0, 3, 2, false) = 1; chance(0, 3, 2, true) = 3; chance(2, 6, 2, false) = 1; chance(2, 6, 2, true) = 7");
        Arguments.arcWord(32, "chance(S, H, ?, true)", "chance(0, 2, 1, true) = 4; chance(0, 2, 3, true) = 4; chance(1, 0, 1, true) = 1;"
            + "chance(2, 0, 6, true) = 7; chance(2, 0, 6, false) = 2");
        new Script(Doc.says(32, "denominator: true for the denominator, false for the numerator")).store("A0B0;").calls(
            "chance(0, 0, 1, true) = 3; chance(0, 0, 1, false) = 2; constrain(0, 0, 1, 2) = 0; chance(0, 0, 1, true) = 1;"
            + "chance(0, 0, 1, false) = 0");
        // A numerator and a denominator that no int holds, and that share no factor.
        new Script(Doc.says(32, "that number")).store("A0B0C0D0E0F0;").calls("setShift(20) = 10; setBias(0, 1, 2, -1) = 0;"
            + "setBias(0, 2, 3, -3) = 0; setBias(0, 3, 4, -7) = 0; setBias(0, 4, 5, -9) = 0; setBias(0, 5, 6, -13) = 0;"
            + "setBias(0, 0, 1, -1) = 0; weightSum(0) = 830740225837; chance(0, 0, 1, true) = 830740225837;"
            + "chance(0, 0, 1, false) = 227937190237");
    }

    /** Each fraction is written as head, word, numerator, denominator. */
    private static void fractions(String name, String calls, String... fractions) {
        Script script = new Script(name).store("A0B0;").calls(calls);
        for (String fraction : fractions) {
            String[] part = fraction.split(" ");
            String arc = "chance(0, " + part[0] + ", " + part[1];
            script.calls(arc + ", false) = " + part[2] + "; " + arc + ", true) = " + part[3]);
        }
    }

    private static void chanceNone() {
        Twins.refused(Doc.says(32, "BAD_INDEX"), "chance(-1, 0, 1, true) = BAD_INDEX; chance(4, 0, 1, false) = BAD_INDEX;"
            + "chance(0, 7, 1, true) = BAD_INDEX; chance(0, 1, 1, true) = BAD_INDEX; chance(0, 1, 0, false) = BAD_INDEX;"
            + "chance(0, 0, 7, true) = BAD_INDEX; chance(0, 0, 0, true) = BAD_INDEX");
        String none = Doc.says(32, "NONE if the sum of the weights of all admissible trees is 0");
        new Script(none + ", no tree").store("A0B0;").calls("constrain(0, 0, 1, 2) = 0; chance(0, 0, 2, true) = 1;"
            + "constrain(0, 0, 2, 2) = 0; chance(0, 0, 2, true) = NONE; chance(0, 0, 2, false) = NONE; chance(0, 2, 2, true) = BAD_INDEX;"
            + "chance(1, 0, 1, true) = BAD_INDEX");
        new Script(none + ", weights 0").store("A0B0;").calls("setShift(1) = 10; chance(0, 0, 1, true) = 3; setShift(0) = 1;"
            + "chance(0, 0, 1, true) = NONE; chance(0, 0, 1, false) = NONE; setBias(0, 0, 1, 1) = 0; chance(0, 0, 1, true) = NONE;"
            + "setBias(0, 0, 2, 1) = 0; chance(0, 0, 1, true) = 1; chance(0, 0, 1, false) = 1");
        new Script(none + ", the sum 1").store("A0;").calls("setShift(1) = 10; weightSum(0) = 1; chance(0, 0, 1, true) = 1;"
            + "chance(0, 0, 1, false) = 1; setShift(0) = 1; weightSum(0) = 0; chance(0, 0, 1, true) = NONE; chance(0, 0, 1, false) = NONE");
        Twins.noTrace(none, Twins.Past.BARREN, "chance(0, 0, 1, true) = NONE; chance(0, 1, 2, false) = NONE");
    }

    private static void riskHead() {
        String terms = Doc.says(33, "The risk tree is the admissible tree with the greatest sum of the chances of its arcs, of several the"
            + " lexicographically first one.");
        // The weights 6, 10 and 15: the chances of 00 are 16 and 21 of 31, those of 01 16 and 10, those of 20 15 and 21.
        new Script(terms).store("A0B0;").calls("setShift(0) = 10; setBias(0, 0, 1, 2) = 0; setBias(0, 0, 2, 3) = 0;"
            + "setBias(0, 1, 2, 5) = 0; setBias(0, 2, 1, 5) = 0; bestHead(0, 1) = 2; riskHead(0, 1) = 0; riskHead(0, 2) = 0");
        // 00 and 20 have equal sums, 1 each; then 20 is ahead by the smallest step.
        new Script(terms + " Equal sums").store("A0B0;").calls("setShift(0) = 10; constrain(0, 1, 2, 2) = 0; setBias(0, 0, 1, 7) = 0;"
            + "setBias(0, 2, 1, 7) = 0; setBias(0, 0, 2, 1) = 0; riskHead(0, 1) = 0; setBias(0, 2, 1, 8) = 7; riskHead(0, 1) = 2;"
            + "setBias(0, 0, 1, 8) = 7; riskHead(0, 1) = 0");
        // The words of the root alone: with a single root that tree is not admissible, and the first one of several is 011.
        new Script(terms + " Settings").store("A0B0C0;").calls("riskHead(0, 1) = 0; riskHead(0, 2) = 0; riskHead(0, 3) = 0;"
            + "setSingleRoot(true) = 0; riskHead(0, 1) = 0; riskHead(0, 2) = 1; riskHead(0, 3) = 1");
        Arguments.sentence(33, "riskHead(?, 1)", "constrain(3, 0, 1, 2) = 0; riskHead(0, 1) = 0; riskHead(3, 1) = 2");
        Arguments.word(33, "riskHead(S, ?)", "constrain(0, 2, 1, 1) = 0; constrain(0, 1, 3, 1) = 0; riskHead(0, 1) = 2; riskHead(0, 3) = 1;"
            + "riskHead(1, 1) = 0; constrain(2, 5, 6, 1) = 0; riskHead(2, 6) = 5; riskHead(2, 1) = 0");
        new Script(Doc.says(33, "the head of the word in the risk tree")).store("A0;B0C0;").calls("riskHead(0, 1) = 0; riskHead(1, 1) = 0;"
            + "riskHead(1, 2) = 0; constrain(1, 0, 1, 2) = 0; riskHead(1, 1) = 2; riskHead(1, 2) = 0; constrain(1, 0, 1, 0) = 2;"
            + "constrain(1, 0, 2, 2) = 0; riskHead(1, 1) = 0; riskHead(1, 2) = 1");
        // The greatest sums that there can be: 20 to the power of 6, times 16807 trees.
        new Script(Doc.says(33, "the head of the word in the risk tree") + ", great sums").store("A0A0A0A0A0A0;").calls("setShift(20) = 10;"
            + "riskHead(0, 1) = 0; riskHead(0, 6) = 0; setBias(0, 0, 6, -14) = 0; riskHead(0, 6) = 1; riskHead(0, 1) = 0;"
            + "setProjective(true) = 0; riskHead(0, 1) = 0; riskHead(0, 6) = 5");
        Twins.refused(Doc.says(33, "BAD_INDEX"), "riskHead(-1, 1) = BAD_INDEX; riskHead(4, 1) = BAD_INDEX; riskHead(0, 0) = BAD_INDEX;"
            + "riskHead(0, 7) = BAD_INDEX");
        String none = Doc.says(33, "NONE if the sum of the weights of all admissible trees is 0");
        new Script(none).store("A0B0;").calls("setShift(1) = 10; riskHead(0, 1) = 0; setShift(0) = 1; riskHead(0, 1) = NONE;"
            + "riskHead(0, 2) = NONE; riskHead(0, 0) = BAD_INDEX; riskHead(0, 3) = BAD_INDEX; riskHead(1, 1) = BAD_INDEX;"
            + "setShift(10) = 0; riskHead(0, 1) = 0; constrain(0, 0, 1, 2) = 0; riskHead(0, 1) = 2; constrain(0, 2, 1, 2) = 0;"
            + "riskHead(0, 1) = NONE; riskHead(0, 2) = NONE");
        new Script(none + ", the sum 1").store("A0;").calls("setShift(1) = 10; weightSum(0) = 1; riskHead(0, 1) = 0; setShift(0) = 1;"
            + "weightSum(0) = 0; riskHead(0, 1) = NONE");
        Twins.noTrace(none, Twins.Past.BARREN, "riskHead(0, 1) = NONE; riskHead(0, 2) = NONE");
    }
}
