/** Promises 23 to 30: best trees and the ranking. */
public final class RankingTest {
    /** Two words of the tags A and B; the trees are 00 (score 3), 01 (12) and 20 (7). */
    private static final String TWO = "setBias(0, 0, 1, 2) = 0; setBias(0, 0, 2, 1) = 0; setBias(0, 1, 2, 10) = 0;"
        + "setBias(0, 2, 1, 6) = 0;";

    public static void main(String[] args) {
        best();
        ranked();
        regret();
        margin();
        correct();
        treeCount();
        badIndices();
        Script.end();
    }

    private static void best() {
        new Script("23: bestScore").store("A0B1;").calls("bestScore(0) = 0;" + TWO + "bestScore(0) = 12;"
            + "constrain(0, 1, 2, 2) = 0; bestScore(0) = 7; constrain(0, 2, 1, 2) = 0; bestScore(0) = 3;"
            + "setSingleRoot(true) = 0; bestScore(0) = NONE");
        new Script("24: bestHead").store("A0B1;").calls("bestHead(0, 1) = 0; bestHead(0, 2) = 0;" + TWO
            + "bestHead(0, 1) = 0; bestHead(0, 2) = 1; constrain(0, 1, 2, 2) = 0; bestHead(0, 1) = 2; bestHead(0, 2) = 0;"
            + "constrain(0, 0, 2, 2) = 0; bestHead(0, 1) = NONE; bestHead(0, 2) = NONE");
        new Script("23: negative scores").store("A0B1;").calls("setTagWeight(8, 0, -99) = 0; setTagWeight(8, 1, -99) = 0;"
            + "setTagWeight(0, 1, -99) = 0; setTagWeight(1, 0, -98) = 0; bestScore(0) = -197; bestHead(0, 1) = 2;"
            + "bestHead(0, 2) = 0");
        // The greatest arcs form a cycle, which has to be broken at the right place.
        new Script("24: a cycle of great arcs").store("A0B0C0;").calls("setBias(0, 2, 1, 50) = 0; setBias(0, 3, 2, 50) = 0;"
            + "setBias(0, 1, 3, 50) = 0; setBias(0, 0, 2, 4) = 0; setBias(0, 0, 3, 3) = 0; bestScore(0) = 104;"
            + "bestHead(0, 1) = 2; bestHead(0, 2) = 0; bestHead(0, 3) = 1");
        new Script("24: the lexicographically first one").store("A0B0C0;").calls("setBias(0, 3, 1, 5) = 0; setBias(0, 2, 1, 5) = 0;"
            + "bestHead(0, 1) = 2; bestHead(0, 2) = 0; bestHead(0, 3) = 0; setSingleRoot(true) = 0; bestHead(0, 1) = 2;"
            + "bestHead(0, 2) = 0; bestHead(0, 3) = 1");
        new Script("24: projective").store("A0B0C0D0;").calls("setBias(0, 3, 1, 9) = 0; setBias(0, 4, 2, 8) = 0; bestScore(0) = 17;"
            + "bestHead(0, 1) = 3; bestHead(0, 2) = 4; setProjective(true) = 0; bestScore(0) = 9; bestHead(0, 1) = 3;"
            + "bestHead(0, 2) = 1; bestHead(0, 3) = 0; bestHead(0, 4) = 0");
        new Script("23: the longest sentence and extreme scores").store("A0A0A0A0A0A0;").calls("setTagWeight(0, 0, 99) = 0;"
            + "setTagWeight(8, 0, 99) = 0; setDistanceWeight(0, 1, 99) = 0; setBias(0, 0, 1, 99) = 0; setBias(0, 1, 2, 99) = 0;"
            + "setBias(0, 2, 3, 99) = 0; setBias(0, 3, 4, 99) = 0; setBias(0, 4, 5, 99) = 0; setBias(0, 5, 6, 99) = 0;"
            + "bestScore(0) = 1782; bestHead(0, 1) = 0; bestHead(0, 6) = 5; setSingleRoot(true) = 0; setProjective(true) = 0;"
            + "bestScore(0) = 1782");
    }

    private static void ranked() {
        new Script("25: rankedScore").store("A0B1;").calls(TWO + "rankedScore(0, 0) = 12; rankedScore(0, 1) = 7;"
            + "rankedScore(0, 2) = 3; rankedScore(0, 3) = NONE; rankedScore(0, 5) = NONE; rankedScore(0, 6) = BAD_VALUE;"
            + "rankedScore(0, -1) = BAD_VALUE; rankedScore(1, 0) = BAD_INDEX; rankedScore(1, 6) = BAD_INDEX;"
            + "rankedScore(-1, -1) = BAD_INDEX; rankedScore(0, 2147483647) = BAD_VALUE; rankedScore(0, -2147483648) = BAD_VALUE;"
            + "constrain(0, 1, 2, 2) = 0; rankedScore(0, 0) = 7; rankedScore(0, 1) = 3; rankedScore(0, 2) = NONE");
        new Script("26: rankedHead").store("A0B1;").calls(TWO + "rankedHead(0, 0, 1) = 0; rankedHead(0, 0, 2) = 1;"
            + "rankedHead(0, 1, 1) = 2; rankedHead(0, 1, 2) = 0; rankedHead(0, 2, 1) = 0; rankedHead(0, 2, 2) = 0;"
            + "rankedHead(0, 3, 1) = NONE; rankedHead(0, 6, 1) = BAD_VALUE; rankedHead(0, -1, 1) = BAD_VALUE;"
            + "rankedHead(0, 0, 0) = BAD_INDEX; rankedHead(0, 0, 3) = BAD_INDEX; rankedHead(0, 6, 3) = BAD_INDEX;"
            + "rankedHead(0, -1, 0) = BAD_INDEX; rankedHead(1, 0, 1) = BAD_INDEX; rankedHead(1, 6, 1) = BAD_INDEX;"
            + "rankedHead(-1, 0, 1) = BAD_INDEX; rankedHead(0, 5, 1) = NONE; rankedHead(0, 5, 3) = BAD_INDEX");
        // All scores are 0, so the ranking is the lexicographic order.
        int[][] trees = {{0, 0, 0}, {0, 0, 1}, {0, 0, 2}, {0, 1, 0}, {0, 1, 1}, {0, 1, 2}};
        Script script = new Script("26: equal scores").store("A0B0C0;");
        for (int rank = 0; rank < 6; rank++) {
            for (int word = 1; word <= 3; word++) {
                script.calls("rankedHead(0," + rank + "," + word + ") = " + trees[rank][word - 1]);
            }
            script.calls("rankedScore(0," + rank + ") = 0");
        }
        new Script("25: no tree at all").store("A0B1;").calls("constrain(0, 0, 1, 2) = 0; constrain(0, 0, 2, 2) = 0;"
            + "rankedScore(0, 0) = NONE; rankedHead(0, 0, 1) = NONE; rankedScore(0, 6) = BAD_VALUE");
    }

    private static void regret() {
        new Script("27: regret").store("A0B1;").calls(TWO + "regret(0, 0, 1) = 0; regret(0, 1, 2) = 0; regret(0, 2, 1) = 5;"
            + "regret(0, 0, 2) = 5; constrain(0, 2, 1, 2) = 0; regret(0, 0, 2) = 9; regret(0, 2, 1) = NONE;"
            + "regret(0, 1, 1) = BAD_INDEX; regret(0, 3, 1) = BAD_INDEX; regret(0, -1, 1) = BAD_INDEX; regret(0, 1, 0) = BAD_INDEX;"
            + "regret(0, 0, 3) = BAD_INDEX; regret(1, 0, 1) = BAD_INDEX; regret(-1, 0, 1) = BAD_INDEX");
        new Script("27: another head is required").store("A0B1;").calls("constrain(0, 1, 2, 1) = 0; regret(0, 0, 2) = NONE;"
            + "regret(0, 1, 2) = 0; regret(0, 2, 1) = NONE");
        new Script("27: no admissible tree").store("A0B1;").calls("constrain(0, 1, 2, 1) = 0; constrain(0, 2, 1, 1) = 0;"
            + "regret(0, 1, 2) = NONE; regret(0, 0, 1) = NONE");
        // With the arc in the tree, the other words choose anew.
        new Script("27: others change").store("A0B0C0;").calls("setBias(0, 2, 3, 20) = 0; setBias(0, 3, 2, 19) = 0;"
            + "setBias(0, 0, 3, 5) = 0; bestScore(0) = 24; regret(0, 2, 3) = 4; regret(0, 0, 3) = 0; regret(0, 1, 3) = 5;"
            + "regret(0, 1, 2) = 4");
    }

    private static void margin() {
        new Script("28: margin").store("A0B1;").calls("margin(0) = 0;" + TWO + "margin(0) = 5; annotate(0, 2, 0) = 1;"
            + "margin(0) = -9; constrain(0, 1, 2, 2) = 0; margin(0) = -4; constrain(0, 2, 1, 2) = 0; margin(0) = NONE;"
            + "margin(1) = BAD_INDEX; margin(-1) = BAD_INDEX");
        // An annotation that is not admissible has a margin as well.
        new Script("28: annotation not admissible").store("A0B1;").calls(TWO + "constrain(0, 1, 2, 2) = 0; margin(0) = 5;"
            + "constrain(0, 0, 2, 2) = 0; margin(0) = NONE");
        // The annotation has the best score without being the best tree.
        new Script("28: equal scores").store("A2B0;").calls("setBias(0, 2, 1, 3) = 0; setBias(0, 1, 2, 3) = 0; margin(0) = 0;"
            + "setBias(0, 1, 2, 0) = 3; margin(0) = 3");
        new Script("28: one tree alone").store("A0;").calls("margin(0) = NONE; constrain(0, 0, 1, 2) = 0; margin(0) = NONE");
    }

    private static void correct() {
        new Script("29: correct").store("A0B1;").calls("correct(0) = 1;" + TWO + "correct(0) = 2; annotate(0, 2, 0) = 1;"
            + "correct(0) = 1; annotate(0, 1, 2) = 0; correct(0) = 0; constrain(0, 0, 1, 2) = 0; correct(0) = 2;"
            + "constrain(0, 0, 2, 2) = 0; correct(0) = NONE; correct(1) = BAD_INDEX; correct(-1) = BAD_INDEX");
    }

    private static void treeCount() {
        String[] texts = {"A0;", "A0A0;", "A0A0A0;", "A0A0A0A0;", "A0A0A0A0A0;", "A0A0A0A0A0A0;"};
        int[] all = {1, 3, 16, 125, 1296, 16807};
        int[] single = {1, 2, 9, 64, 625, 7776};
        int[] projective = {1, 3, 12, 55, 273, 1428};
        int[] both = {1, 2, 7, 30, 143, 728};
        for (int i = 0; i < 6; i++) {
            new Script("30: treeCount of " + texts[i]).store(texts[i]).calls("treeCount(0) = " + all[i]
                + "; setSingleRoot(true) = 0; treeCount(0) = " + single[i] + "; setProjective(true) = 0; treeCount(0) = "
                + both[i] + "; setSingleRoot(false) = 1; treeCount(0) = " + projective[i]);
        }
        // The number of trees does not depend on the scores.
        new Script("30: scores do not matter").store("A0A0;").calls("setTagWeight(8, 0, -99) = 0; setShift(-100) = 10;"
            + "treeCount(0) = 3; weightSum(0) = 0; constrain(0, 0, 1, 2) = 0; treeCount(0) = 1; constrain(0, 2, 1, 2) = 0;"
            + "treeCount(0) = 0; treeCount(1) = BAD_INDEX; treeCount(-1) = BAD_INDEX");
    }

    private static void badIndices() {
        for (String bad : new String[] {"-1", "2", "4", "2147483647", "-2147483648"}) {
            new Script("23 to 30: sentence " + bad).store("A0B1;C0;").calls("bestScore(" + bad + ") = BAD_INDEX; bestHead(" + bad
                + ", 1) = BAD_INDEX; rankedScore(" + bad + ", 0) = BAD_INDEX; rankedHead(" + bad + ", 0, 1) = BAD_INDEX; regret("
                + bad + ", 0, 1) = BAD_INDEX; margin(" + bad + ") = BAD_INDEX; correct(" + bad + ") = BAD_INDEX; treeCount("
                + bad + ") = BAD_INDEX");
        }
        for (String bad : new String[] {"-1", "0", "3", "7", "2147483647", "-2147483648"}) {
            new Script("24, 26: word " + bad).store("A0B1;").calls("bestHead(0, " + bad + ") = BAD_INDEX; rankedHead(0, 0, " + bad
                + ") = BAD_INDEX; constrain(0, 0, 1, 2) = 0; constrain(0, 0, 2, 2) = 0; bestHead(0, " + bad
                + ") = BAD_INDEX; rankedHead(0, 0, " + bad + ") = BAD_INDEX; regret(0, 0, " + bad + ") = BAD_INDEX");
        }
    }
}
