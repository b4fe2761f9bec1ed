/** The boundary cases of the promises 23 to 30: best trees and the ranking. */
final class RankingBoundaries {
    /** Scores for two words: the trees are 00 (score 3), 01 (12) and 20 (7). */
    private static final String TWO = "setBias(0, 0, 1, 2) = 0; setBias(0, 0, 2, 1) = 0; setBias(0, 1, 2, 10) = 0;"
        + "setBias(0, 2, 1, 6) = 0;";
    /** An arc from the root scores 5 to an A and 6 to an H. */
    private static final String ROOT = "setTagWeight(8, 0, 5) = 0; setTagWeight(8, 7, 6) = 0;";
    /** Leaves no admissible tree to a sentence of two words. */
    private static final String BARREN = "constrain(0, 0, 1, 2) = 0; constrain(0, 0, 2, 2) = 0;";

    private RankingBoundaries() {
    }

    static void run() {
        trees();
        admissible();
        ranking();
        bestScore();
        bestHead();
        rankedScore();
        rankedHead();
        regret();
        margin();
        correct();
        treeCount();
    }

    private static void trees() {
        // A tree of one word, and of six; 7 to the power of 5 trees of six words.
        new Script(Doc.says(30, "A tree of a sentence gives each word a head in this way.")).store("A0;A0A0;A0A0A0A0A0A0;").calls(
            "treeCount(0) = 1; bestHead(0, 1) = 0; treeCount(1) = 3; treeCount(2) = 16807");
        String compared = Doc.says(26, "Trees are compared lexicographically by their sequences of heads (that of word 1 first).");
        ranked(compared, "A0B0C0;", "", "000", "001", "002", "010", "011", "012");
        ranked(compared, "A0B0C0;", "constrain(0, 0, 1, 2) = 0", "200", "201", "202", "230", "300", "302");
        ranked(compared, "A0B0;", "", "00", "01", "20");
        new Script(Doc.says(23, "The score of a tree is the sum of the scores of its arcs.")).store("A0;A0B0C0D0E0F0;").calls(
            "setBias(0, 0, 1, -7) = 0; bestScore(0) = -7; setBias(1, 0, 1, 1) = 0; setBias(1, 1, 2, 2) = 0; setBias(1, 2, 3, 4) = 0;"
            + "setBias(1, 3, 4, 8) = 0; setBias(1, 4, 5, 16) = 0; setBias(1, 5, 6, 32) = 0; bestScore(1) = 63");
    }

    private static void ranked(String name, String text, String calls, String... trees) {
        Script script = new Script(name + " of " + text).store(text).calls(calls);
        for (int rank = 0; rank < trees.length; rank++) {
            for (int word = 1; word <= trees[rank].length(); word++) {
                script.calls("rankedHead(0, " + rank + ", " + word + ") = " + trees[rank].charAt(word - 1));
            }
        }
        if (trees.length < 6) {
            script.calls("rankedScore(0, " + trees.length + ") = NONE; treeCount(0) = " + trees.length);
        }
    }

    private static void admissible() {
        String required = Doc.says(30, "A tree is admissible if it contains all required");
        ranked(required, "A0B0C0;", "constrain(0, 3, 1, 1) = 0; constrain(0, 0, 2, 1) = 0", "300", "302");
        ranked(required, "A0B0;", "constrain(0, 0, 1, 1) = 0; constrain(0, 0, 2, 1) = 0", "00");
        String forbidden = Doc.says(30, "and no forbidden arcs");
        ranked(forbidden, "A0B0;", "constrain(0, 1, 2, 2) = 0", "00", "20");
        ranked(forbidden, "A0B0;", "constrain(0, 1, 2, 2) = 0; constrain(0, 0, 1, 2) = 0", "20");
        new Script(forbidden + ", all of them").store("A0B0;").calls("constrain(0, 1, 2, 2) = 0; constrain(0, 0, 1, 2) = 0;"
            + "constrain(0, 2, 1, 2) = 0; constrain(0, 0, 2, 2) = 0; treeCount(0) = 0; bestScore(0) = NONE");
        String single = Doc.says(30, "with single root on, exactly one word has the head 0");
        ranked(single, "A0;", "setSingleRoot(true) = 0", "0");
        ranked(single, "A0B0;", "setSingleRoot(true) = 0", "01", "20");
        // Two words below the root are required, so that there is no tree with exactly one.
        new Script(single + ", two required").store("A0B0C0;").calls("constrain(0, 0, 1, 1) = 0; constrain(0, 0, 3, 1) = 0;"
            + "treeCount(0) = 3; setSingleRoot(true) = 0; treeCount(0) = 0; bestHead(0, 1) = NONE; riskHead(0, 1) = NONE");
        String projective = Doc.says(30, "with projective on, no two of its arcs cross");
        ranked(projective, "A0B0C0;", "constrain(0, 0, 1, 1) = 0; constrain(0, 3, 2, 2) = 0; setProjective(true) = 0",
            "000", "002", "010", "011", "012");
        // The arcs 1-3 and 2-4 are required and cross.
        new Script(projective + ", crossing arcs required").store("A0B0C0D0;").calls("constrain(0, 1, 3, 1) = 0;"
            + "constrain(0, 2, 4, 1) = 0; treeCount(0) = 5; setProjective(true) = 0; treeCount(0) = 0; bestScore(0) = NONE");
        // Without crossings, but with an arc that has a word of the root's below it.
        new Script(projective + ", with the root").store("A0B0;C3D0E0;").calls("setProjective(true) = 0; treeCount(0) = 3;"
            + "constrain(1, 3, 1, 1) = 0; constrain(1, 0, 2, 1) = 0; treeCount(1) = 0; setProjective(false) = 1; treeCount(1) = 2");
    }

    private static void ranking() {
        String order = Doc.says(26, "The ranking of a sentence is the sequence of all its admissible trees, by descending scores,"
            + " trees with equal scores in lexicographic order.");
        ranked(order, "A0B0;", TWO, "01", "20", "00");
        ranked(order, "A0B0;", "setBias(0, 2, 1, 1) = 0", "20", "00", "01");
        ranked(order, "A0B0;", "setBias(0, 2, 1, -1) = 0", "00", "01", "20");
        ranked(order, "A0B0;", "setBias(0, 0, 1, 1) = 0; setBias(0, 1, 2, 1) = 0", "01", "00", "20");
        ranked(order, "A0B0C0;", "setBias(0, 2, 3, 1) = 0", "002", "012", "202", "302", "000", "001");
        new Script(Doc.says(23, "The best tree is the first one of the ranking.")).store("A0B0;").calls(TWO + "bestScore(0) = 12;"
            + "rankedScore(0, 0) = 12; bestHead(0, 1) = 0; bestHead(0, 2) = 1; rankedHead(0, 0, 2) = 1; constrain(0, 1, 2, 2) = 0;"
            + "bestScore(0) = 7; rankedScore(0, 0) = 7; bestHead(0, 1) = 2; rankedHead(0, 0, 1) = 2");
    }

    private static void bestScore() {
        Arguments.sentence(23, "bestScore(?)", ROOT + "bestScore(0) = 5; bestScore(3) = 11");
        String score = Doc.says(23, "the score of its best tree");
        extremes(score, 99, 1782);
        extremes(score, -99, -1782);
        new Script(score + ", just below 0").store("A0B0;").calls("setBias(0, 0, 1, -9) = 0; setBias(0, 2, 1, -1) = 0; bestScore(0) = -1;"
            + "bestHead(0, 1) = 2; setBias(0, 2, 1, 0) = -1; bestScore(0) = 0; setBias(0, 2, 1, 1) = 0; bestScore(0) = 1");
        Twins.refused(Doc.says(23, "BAD_INDEX"), "bestScore(-1) = BAD_INDEX; bestScore(4) = BAD_INDEX");
        String none = Doc.says(23, "NONE if there is no admissible tree");
        new Script(none).store("A0B0;").calls("constrain(0, 0, 1, 2) = 0; bestScore(0) = 0; constrain(0, 0, 2, 2) = 0;"
            + "bestScore(0) = NONE; bestScore(1) = BAD_INDEX");
        Twins.noTrace(none, Twins.Past.BARREN, "bestScore(0) = NONE; bestScore(1) = 7");
    }

    /** Each weight and each bias of the longest sentence has the same value. */
    private static void extremes(String name, int value, int due) {
        Script script = new Script(name + ", " + due).store("A0A0A0A0A0A0;").calls("setTagWeight(0, 0, " + value
            + ") = 0; setTagWeight(8, 0, " + value + ") = 0");
        for (int distance = 1; distance <= 6; distance++) {
            script.calls("setDistanceWeight(0, " + distance + ", " + value + ") = 0; setDistanceWeight(1, " + distance + ", " + value
                + ") = 0");
        }
        for (int head = 0; head <= 6; head++) {
            for (int word = 1; word <= 6; word++) {
                if (head != word) {
                    script.calls("setBias(0, " + head + ", " + word + ", " + value + ") = 0");
                }
            }
        }
        script.calls("bestScore(0) = " + due + "; rankedScore(0, 5) = " + due + "; bestHead(0, 1) = 0; bestHead(0, 6) = 0;"
            + "regret(0, 6, 1) = 0; margin(0) = 0; treeCount(0) = 16807; setSingleRoot(true) = 0; setProjective(true) = 0;"
            + "bestScore(0) = " + due + "; rankedHead(0, 0, 6) = 1; rankedHead(0, 1, 6) = 5");
    }

    private static void bestHead() {
        Arguments.sentence(24, "bestHead(?, 1)", "constrain(3, 0, 1, 2) = 0; bestHead(0, 1) = 0; bestHead(3, 1) = 2");
        Arguments.word(24, "bestHead(S, ?)", "setBias(0, 2, 1, 1) = 0; setBias(0, 1, 3, 1) = 0; bestHead(0, 1) = 2; bestHead(0, 3) = 1;"
            + "bestHead(1, 1) = 0; setBias(2, 5, 6, 1) = 0; bestHead(2, 6) = 5; bestHead(2, 1) = 0");
        new Script(Doc.says(24, "the head of the word in the best tree")).store("A0B0C0D0E0F0;").calls("bestHead(0, 1) = 0;"
            + "bestHead(0, 6) = 0; setBias(0, 6, 1, 1) = 0; bestHead(0, 1) = 6; bestHead(0, 6) = 0; setBias(0, 1, 6, 2) = 0;"
            + "bestHead(0, 1) = 0; bestHead(0, 6) = 1; setBias(0, 6, 1, 3) = 1; bestHead(0, 1) = 6; bestHead(0, 6) = 0;"
            + "setBias(0, 6, 1, 2) = 3; bestHead(0, 1) = 0; bestHead(0, 6) = 1");
        Twins.refused(Doc.says(24, "BAD_INDEX"), "bestHead(-1, 1) = BAD_INDEX; bestHead(4, 1) = BAD_INDEX; bestHead(0, 0) = BAD_INDEX;"
            + "bestHead(0, 7) = BAD_INDEX");
        String none = Doc.says(24, "NONE if there is no admissible tree");
        new Script(none).store("A0B0;").calls("constrain(0, 0, 1, 2) = 0; bestHead(0, 1) = 2; bestHead(0, 2) = 0;"
            + "constrain(0, 0, 2, 2) = 0; bestHead(0, 1) = NONE; bestHead(0, 2) = NONE; bestHead(0, 0) = BAD_INDEX;"
            + "bestHead(0, 3) = BAD_INDEX; bestHead(1, 1) = BAD_INDEX");
        Twins.noTrace(none, Twins.Past.BARREN, "bestHead(0, 1) = NONE; bestHead(1, 2) = 0");
    }

    /** Sentences with exactly as many admissible trees, of equal scores, as a rank needs and one less. */
    private static void fewTrees(String name, String call) {
        new Script(name + ", 1").store("A0;").calls(call + "0) = 0").each(call + "?)", "NONE", 1, 2, 3, 4, 5);
        new Script(name + ", 3").store("A0B0;").each(call + "?)", "0", 0, 1).each(call + "?)", "NONE", 3, 4, 5);
        String five = "constrain(0, 0, 1, 1) = 0; constrain(0, 3, 2, 2) = 0; setProjective(true) = 0; treeCount(0) = 5";
        new Script(name + ", 5").store("A0B0C0;").calls(five).each(call + "?)", "0", 0, 1, 2, 3, 4).each(call + "?)", "NONE", 5);
        new Script(name + ", 6").store("A0B0C0;").calls(five + "; setProjective(false) = 1; treeCount(0) = 6")
            .each(call + "?)", "0", 0, 1, 2, 3, 4, 5);
        new Script(name + ", none").store("A0B0;").calls(BARREN).each(call + "?)", "NONE", 0, 1, 2, 3, 4, 5)
            .outside(call + "?)", "BAD_VALUE", 0, 5);
    }

    private static void rankedScore() {
        Arguments.sentence(25, "rankedScore(?, 0)", ROOT + "rankedScore(0, 0) = 5; rankedScore(3, 0) = 11; rankedScore(3, 1) = 6");
        new Script(Doc.says(25, "rank: the place in the ranking, 0 to 5")).store("A0B0C0;").calls("rankedScore(0, 0) = 0;"
            + "rankedScore(0, 5) = 0").outside("rankedScore(0, ?)", "BAD_VALUE", 0, 5);
        new Script(Doc.says(25, "the score of the tree at this place")).store("A0B0;").calls(TWO + "rankedScore(0, 0) = 12;"
            + "rankedScore(0, 1) = 7; rankedScore(0, 2) = 3; setBias(0, 0, 1, -99) = 2; rankedScore(0, 0) = 7; rankedScore(0, 1) = -89;"
            + "rankedScore(0, 2) = -98");
        Twins.refused(Doc.says(25, "BAD_INDEX if there is no such sentence"), "rankedScore(-1, 0) = BAD_INDEX;"
            + "rankedScore(4, 0) = BAD_INDEX; rankedScore(4, 6) = BAD_INDEX; rankedScore(-1, -1) = BAD_INDEX");
        String value = Doc.says(25, "BAD_VALUE");
        for (Twins.Past past : new Twins.Past[] {Twins.Past.SOME, Twins.Past.FULL, Twins.Past.BARREN}) {
            Twins.noTrace(value, past, "rankedScore(0, -1) = BAD_VALUE; rankedScore(0, 6) = BAD_VALUE");
        }
        String none = Doc.says(25, "NONE if there are not so many admissible trees");
        new Script(none).store("A0B0;").calls("rankedScore(0, 2) = 0; rankedScore(0, 3) = NONE; rankedScore(0, 5) = NONE;"
            + "rankedScore(0, 6) = BAD_VALUE; constrain(0, 1, 2, 2) = 0; rankedScore(0, 1) = 0; rankedScore(0, 2) = NONE");
        fewTrees(none, "rankedScore(0, ");
        Twins.noTrace(none, Twins.Past.BARREN, "rankedScore(0, 0) = NONE; rankedScore(1, 3) = NONE");
    }

    private static void rankedHead() {
        Arguments.sentence(26, "rankedHead(?, 0, 1)", "constrain(3, 0, 1, 2) = 0; rankedHead(0, 0, 1) = 0; rankedHead(3, 0, 1) = 2");
        new Script(Doc.says(26, "rank: the place in the ranking, 0 to 5")).store("A0B0C0;").calls("rankedHead(0, 0, 3) = 0;"
            + "rankedHead(0, 5, 3) = 2").outside("rankedHead(0, ?, 3)", "BAD_VALUE", 0, 5);
        Arguments.word(26, "rankedHead(S, 0, ?)", "rankedHead(0, 0, 1) = 0; rankedHead(0, 5, 3) = 2; rankedHead(1, 0, 1) = 0;"
            + "rankedHead(2, 0, 6) = 0; rankedHead(2, 5, 6) = 5");
        ranked(Doc.says(26, "the head of the word in the tree at this place"), "A0B0;", TWO, "01", "20", "00");
        ranked(Doc.says(26, "the head of the word in the tree at this place"), "A0B0C0D0E0F0;", "",
            "000000", "000001", "000002", "000003", "000004", "000005");
        Twins.refused(Doc.says(26, "BAD_INDEX if there is no such sentence or word"), "rankedHead(-1, 0, 1) = BAD_INDEX;"
            + "rankedHead(4, 0, 1) = BAD_INDEX; rankedHead(0, 0, 0) = BAD_INDEX; rankedHead(0, 0, 7) = BAD_INDEX;"
            + "rankedHead(0, 6, 7) = BAD_INDEX; rankedHead(4, -1, 1) = BAD_INDEX; rankedHead(0, -1, 0) = BAD_INDEX");
        String value = Doc.says(26, "BAD_VALUE");
        for (Twins.Past past : new Twins.Past[] {Twins.Past.SOME, Twins.Past.FULL, Twins.Past.BARREN}) {
            Twins.noTrace(value, past, "rankedHead(0, -1, 1) = BAD_VALUE; rankedHead(0, 6, 1) = BAD_VALUE");
        }
        String none = Doc.says(26, "NONE if there are not so many admissible trees");
        new Script(none).store("A0B0;").calls("rankedHead(0, 2, 1) = 2; rankedHead(0, 3, 1) = NONE; rankedHead(0, 5, 2) = NONE;"
            + "rankedHead(0, 5, 3) = BAD_INDEX; rankedHead(0, 6, 1) = BAD_VALUE; constrain(0, 1, 2, 2) = 0; rankedHead(0, 1, 1) = 2;"
            + "rankedHead(0, 2, 1) = NONE;" + BARREN + "rankedHead(0, 0, 1) = NONE");
        Twins.noTrace(none, Twins.Past.BARREN, "rankedHead(0, 0, 1) = NONE; rankedHead(1, 3, 1) = NONE");
    }

    private static void regret() {
        String regret = Doc.says(27, "the regret of an arc: the score of the best tree minus the greatest score of an admissible tree"
            + " that contains the arc");
        new Script(regret).store("A0B0;").calls(TWO + "regret(0, 0, 1) = 0; regret(0, 1, 2) = 0; regret(0, 2, 1) = 5; regret(0, 0, 2) = 5;"
            + "constrain(0, 1, 2, 2) = 0; regret(0, 2, 1) = 0; regret(0, 0, 1) = 4");
        Arguments.sentence(27, "regret(?, 0, 1)", ROOT + "regret(0, 0, 1) = 0; regret(3, 0, 1) = 0; regret(3, 2, 1) = 6;"
            + "regret(0, 2, 1) = 5");
        Arguments.head(27, "regret(S, ?, 2)", "setBias(0, 0, 2, 9) = 0; regret(0, 0, 2) = 0; regret(0, 1, 2) = 9; regret(0, 3, 2) = 9;"
            + "setBias(2, 6, 2, 4) = 0; regret(2, 6, 2) = 0; regret(2, 0, 2) = 4");
        Arguments.arcWord(27, "regret(S, H, ?)", "setBias(0, 0, 3, 9) = 0; regret(0, 2, 1) = 0; regret(0, 2, 3) = 9; regret(1, 0, 1) = 0;"
            + "setBias(2, 0, 6, -4) = 0; regret(2, 0, 6) = 4; regret(2, 5, 6) = 0");
        String least = Doc.says(27, "the regret, 0 or more");
        new Script(least).store("A0B0;").calls("regret(0, 0, 1) = 0; regret(0, 2, 1) = 0; setBias(0, 2, 1, -1) = 0; regret(0, 2, 1) = 1;"
            + "setBias(0, 2, 1, 1) = -1; regret(0, 2, 1) = 0; regret(0, 0, 1) = 1");
        // All arcs of the tree 01 gain 99 three times, and those of the only other one with the arc from 2 lose as much.
        new Script(least + ", a great one").store("A0B0;").calls("setTagWeight(8, 0, 99) = 0; setTagWeight(0, 1, 99) = 0;"
            + "setDistanceWeight(0, 1, 99) = 0; setBias(0, 0, 1, 99) = 0; setBias(0, 1, 2, 99) = 0; setTagWeight(8, 1, -99) = 0;"
            + "setTagWeight(1, 0, -99) = 0; setDistanceWeight(0, 2, -99) = 0; setDistanceWeight(1, 1, -99) = 0;"
            + "setBias(0, 0, 2, -99) = 0; setBias(0, 2, 1, -99) = 0; bestScore(0) = 594; regret(0, 2, 1) = 1188; regret(0, 0, 1) = 0");
        Twins.refused(Doc.says(27, "BAD_INDEX"), "regret(-1, 0, 1) = BAD_INDEX; regret(4, 0, 1) = BAD_INDEX; regret(0, 7, 1) = BAD_INDEX;"
            + "regret(0, 1, 1) = BAD_INDEX; regret(0, 1, 0) = BAD_INDEX; regret(0, 0, 7) = BAD_INDEX; regret(0, 0, 0) = BAD_INDEX");
        String none = Doc.says(27, "NONE if no admissible tree contains the arc");
        new Script(none + ", forbidden").store("A0B0;").calls("constrain(0, 2, 1, 2) = 0; regret(0, 2, 1) = NONE; regret(0, 0, 1) = 0");
        // What has been found before the arc was forbidden does not count.
        new Script(none + ", forbidden later").store("A0B0;C0D0E0;").calls("regret(0, 2, 1) = 0; constrain(0, 2, 1, 2) = 0; regret(0, 2, 1) = NONE;"
            + "regret(1, 3, 2) = 0; constrain(1, 3, 2, 2) = 0; regret(1, 3, 2) = NONE; regret(1, 1, 2) = 0; remove(1) = 1; regret(0, 2, 1) = NONE");
        new Script(none + ", another required").store("A0B0;").calls("constrain(0, 0, 1, 1) = 0; regret(0, 2, 1) = NONE;"
            + "regret(0, 0, 1) = 0; regret(0, 1, 2) = 0; constrain(0, 1, 2, 1) = 0; regret(0, 0, 2) = NONE; regret(0, 1, 2) = 0");
        new Script(none + ", a cycle").store("A0B0;").calls("constrain(0, 1, 2, 1) = 0; regret(0, 2, 1) = NONE");
        new Script(none + ", a second root").store("A0B0C0;").calls("constrain(0, 0, 2, 1) = 0; regret(0, 0, 1) = 0;"
            + "setSingleRoot(true) = 0; regret(0, 0, 1) = NONE; regret(0, 0, 2) = 0");
        new Script(none + ", crossing").store("A0B0C0;").calls("constrain(0, 0, 2, 1) = 0; regret(0, 3, 1) = 0;"
            + "setProjective(true) = 0; regret(0, 3, 1) = NONE; regret(0, 1, 3) = NONE; regret(0, 2, 1) = 0");
        new Script(none + ", no tree at all").store("A0B0;").calls(BARREN + "regret(0, 0, 1) = NONE; regret(0, 1, 2) = NONE;"
            + "regret(0, 1, 1) = BAD_INDEX");
        Twins.noTrace(none, Twins.Past.BARREN, "regret(0, 0, 1) = NONE; regret(0, 1, 2) = NONE");
        Twins.noTrace(none, Twins.Past.SOME, "regret(0, 1, 3) = NONE");
    }

    private static void margin() {
        String margin = Doc.says(28, "the margin of the annotation: its score minus the greatest score of an admissible tree"
            + " that is not the annotation");
        new Script(margin).store("A0B1;").calls(TWO + "margin(0) = 5; annotate(0, 2, 0) = 1; margin(0) = -9; annotate(0, 1, 2) = 0;"
            + "margin(0) = -5");
        Arguments.sentence(28, "margin(?)", ROOT + "margin(0) = 0; margin(3) = -6");
        String negative = Doc.says(28, "the margin, which may be negative");
        new Script(negative).store("A2B0;").calls("margin(0) = 0; setBias(0, 2, 1, 1) = 0; margin(0) = 1; setBias(0, 2, 1, -1) = 1;"
            + "margin(0) = -1; setBias(0, 2, 1, 0) = -1; margin(0) = 0");
        // The annotation shares the greatest score with the best tree, which is another one.
        new Script(negative + ", equal scores").store("A2B0;").calls("setBias(0, 2, 1, 3) = 0; setBias(0, 1, 2, 3) = 0; bestHead(0, 1) = 0;"
            + "margin(0) = 0");
        Twins.refused(Doc.says(28, "BAD_INDEX"), "margin(-1) = BAD_INDEX; margin(4) = BAD_INDEX");
        String none = Doc.says(28, "NONE if there is no such tree (whether or not the annotation is admissible)");
        new Script(none + ", the annotation alone is admissible").store("A0;B0C1;").calls("margin(0) = NONE; constrain(1, 1, 2, 1) = 0;"
            + "treeCount(1) = 1; margin(1) = NONE");
        new Script(none + ", nothing is admissible").store("A0;B0C1;").calls("constrain(0, 0, 1, 2) = 0; margin(0) = NONE;"
            + "constrain(1, 0, 1, 2) = 0; constrain(1, 0, 2, 2) = 0; margin(1) = NONE");
        // One tree is admissible and it is not the annotation: there is a margin.
        new Script(none + ", another tree alone is admissible").store("B0C1;").calls("constrain(0, 0, 2, 1) = 0;"
            + "constrain(0, 0, 1, 1) = 0; treeCount(0) = 1; setBias(0, 1, 2, 4) = 0; margin(0) = 4");
        Twins.noTrace(none, Twins.Past.BARREN, "margin(0) = NONE; margin(1) = -7");
    }

    private static void correct() {
        Arguments.sentence(29, "correct(?)", "annotate(0, 3, 0) = 2; correct(0) = 2; correct(3) = 1");
        String number = Doc.says(29, "the number of words whose head in the best tree is that of the annotation");
        new Script(number).store("A0;A0B0C0D0E0F0;").calls("correct(0) = 1; correct(1) = 6; annotate(1, 6, 5) = 0; correct(1) = 5;"
            + "annotate(1, 5, 4) = 0; annotate(1, 4, 3) = 0; annotate(1, 3, 2) = 0; annotate(1, 2, 1) = 0; correct(1) = 1;"
            + "setSingleRoot(true) = 0; setBias(1, 0, 6, 1) = 0; correct(1) = 0");
        Twins.refused(Doc.says(29, "BAD_INDEX"), "correct(-1) = BAD_INDEX; correct(4) = BAD_INDEX");
        String none = Doc.says(29, "NONE if there is no admissible tree");
        new Script(none).store("A2B0;").calls("correct(0) = 1;" + BARREN + "correct(0) = NONE; correct(1) = BAD_INDEX");
        Twins.noTrace(none, Twins.Past.BARREN, "correct(0) = NONE; correct(1) = 0");
    }

    private static void treeCount() {
        Arguments.sentence(30, "treeCount(?)", "treeCount(0) = 16; treeCount(3) = 3");
        String number = Doc.says(30, "the number of its admissible trees");
        // None, one, and as many as there can be: without and with each setting.
        new Script(number).store("A0;A0A0A0A0A0A0;").calls("treeCount(0) = 1; constrain(0, 0, 1, 2) = 0; treeCount(0) = 0;"
            + "treeCount(1) = 16807; setSingleRoot(true) = 0; treeCount(1) = 7776; setProjective(true) = 0; treeCount(1) = 728;"
            + "setSingleRoot(false) = 1; treeCount(1) = 1428");
        // Trees with the weight 0 count as well.
        new Script(number + ", weights 0").store("A0B0;").calls("setShift(-100) = 10; weightSum(0) = 0; treeCount(0) = 3");
        Twins.refused(Doc.says(30, "BAD_INDEX"), "treeCount(-1) = BAD_INDEX; treeCount(4) = BAD_INDEX");
    }
}
