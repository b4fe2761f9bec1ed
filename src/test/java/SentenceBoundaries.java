/** The boundary cases of the promises 6 to 12: the stored sentences and their annotations. */
final class SentenceBoundaries {
    private SentenceBoundaries() {
    }

    static void run() {
        stored();
        remove();
        sentencesAndWords();
        tag();
        annotatedHead();
        annotate();
        annotateRefused();
        acceptBest();
    }

    private static void stored() {
        new Script(Doc.says(7, "At most 4 sentences are stored, numbered from 0.")).calls("words(0) = BAD_INDEX")
            .store("A0;B0;C0;").calls("words(3) = BAD_INDEX").store("D0;").calls("sentences() = 4; tag(0, 1) = 0; tag(3, 1) = 3;"
            + "words(4) = BAD_INDEX; words(-1) = BAD_INDEX").type("E0;").calls("read() = FULL; sentences() = 4; tag(3, 1) = 3");
        new Script(Doc.says(8, "A sentence has 1 to 6 words, numbered from 1; 0 is the root.")).store("A0;A0B1C2D3E4F5;")
            .calls("words(0) = 1; words(1) = 6; tag(0, 0) = BAD_INDEX; tag(0, 1) = 0; tag(0, 2) = BAD_INDEX;"
            + "tag(1, 6) = 5; tag(1, 7) = BAD_INDEX; annotatedHead(1, 0) = BAD_INDEX; annotatedHead(1, 1) = 0");
        new Script(Doc.says(9, "Each word has a tag from 0 to 7, which is written A to H; the root counts as having the tag 8."))
            .store("A0B0C0D0;E0F0G0H0;").calls("tag(0, 1) = 0; tag(0, 2) = 1; tag(0, 3) = 2; tag(0, 4) = 3; tag(1, 1) = 4;"
            + "tag(1, 2) = 5; tag(1, 3) = 6; tag(1, 4) = 7; tag(1, 0) = BAD_INDEX; setTagWeight(8, 7, 3) = 0; score(1, 0, 4) = 3;"
            + "score(1, 3, 4) = 0; setTagWeight(7, 4, 2) = 0; score(1, 4, 1) = 2; score(1, 0, 1) = 0");
        new Script(Doc.says(22, "An arc is a pair of a head (0 or a word) and a word that is different from it."))
            .store("A0B0;").calls("score(0, 0, 1) = 0; score(0, 0, 2) = 0; score(0, 1, 2) = 0; score(0, 2, 1) = 0;"
            + "score(0, 1, 1) = BAD_INDEX; score(0, 2, 2) = BAD_INDEX; score(0, 0, 0) = BAD_INDEX; score(0, 1, 0) = BAD_INDEX;"
            + "score(0, 3, 1) = BAD_INDEX; score(0, 1, 3) = BAD_INDEX; score(0, -1, 1) = BAD_INDEX");
        new Script(Doc.says(11, "such that from each word one comes to the root by going from word to head")).store("A0B1C2D3E4F5;")
            .each("annotate(0, 1, ?)", "BAD_VALUE", 2, 3, 4, 5, 6).each("annotate(0, 5, ?)", "BAD_VALUE", 6)
            .calls("depth(0, 6) = 6; annotate(0, 6, 0) = 5; annotate(0, 1, 6) = 0; depth(0, 5) = 6; depth(0, 6) = 1");
    }

    private static void remove() {
        new Script(Doc.says(6, "Removes a sentence")).store("A0;B0;").calls("remove(1) = 1; tag(0, 1) = 0; tag(1, 1) = BAD_INDEX;"
            + "remove(0) = 0; tag(0, 1) = BAD_INDEX; sentences() = 0");
        String later = Doc.says(6, "The numbers of all later ones decrease by 1");
        int[][] left = {{1, 2, 3}, {0, 2, 3}, {0, 1, 3}, {0, 1, 2}};
        for (int removed = 0; removed < 4; removed++) {
            Script script = new Script(later + ", " + removed).store("A0E0;B0F0;C0G0;D0H0;").calls("setBias(0, 1, 2, 20) = 0;"
                + "setBias(1, 1, 2, 21) = 0; setBias(2, 1, 2, 22) = 0; setBias(3, 1, 2, 23) = 0; constrain(3, 0, 2, 2) = 0;"
                + "annotate(3, 2, 1) = 0; remove(" + removed + ") = 3");
            for (int i = 0; i < 3; i++) {
                int was = left[removed][i];
                script.calls("tag(" + i + ", 1) = " + was + "; tag(" + i + ", 2) = " + (was + 4) + "; score(" + i + ", 1, 2) = "
                    + (20 + was) + "; annotatedHead(" + i + ", 2) = " + (was == 3 ? 1 : 0) + "; constrain(" + i + ", 0, 2, 0) = "
                    + (was == 3 ? 2 : 0));
            }
            script.calls("words(3) = BAD_INDEX").store("H0;").calls("words(3) = 1; tag(3, 1) = 7; score(3, 0, 1) = 0");
        }
        Arguments.sentence(6, "remove(?)", "remove(3) = 3; remove(0) = 2");
        new Script(Doc.says(6, "the number of sentences that are left")).store("A0;B0;C0;D0;").calls("remove(3) = 3; remove(0) = 2;"
            + "remove(1) = 1; remove(0) = 0; remove(0) = BAD_INDEX; sentences() = 0").store("A0;").calls("remove(0) = 0");
        Twins.refused(Doc.says(6, "BAD_INDEX"), "remove(-1) = BAD_INDEX; remove(4) = BAD_INDEX");
        Twins.noTrace(Doc.says(6, "BAD_INDEX"), Twins.Past.SOME, "remove(2) = BAD_INDEX; remove(3) = BAD_INDEX");
    }

    private static void sentencesAndWords() {
        new Script(Doc.says(7, "the number of stored sentences")).calls("sentences() = 0").store("A0;").calls("sentences() = 1")
            .store("A0;B0;C0;").calls("sentences() = 4").type("A0;").calls("read() = FULL; sentences() = 4; remove(4) = BAD_INDEX;"
            + "sentences() = 4; remove(3) = 3; sentences() = 3; remove(0) = 2; remove(0) = 1; remove(0) = 0; sentences() = 0");
        Arguments.sentence(8, "words(?)", "words(0) = 3; words(3) = 2");
        new Script(Doc.says(8, "the number of its words")).store("A0;A0B1;A0B1C2D3E4;A0B1C2D3E4F5;").calls("words(0) = 1;"
            + "words(1) = 2; words(2) = 5; words(3) = 6");
        Twins.refused(Doc.says(8, "BAD_INDEX"), "words(-1) = BAD_INDEX; words(4) = BAD_INDEX");
    }

    private static void tag() {
        Arguments.sentence(9, "tag(?, 1)", "tag(0, 1) = 0; tag(3, 1) = 7");
        Arguments.word(9, "tag(S, ?)", "tag(0, 1) = 0; tag(0, 3) = 2; tag(1, 1) = 3; tag(2, 6) = 7");
        new Script(Doc.says(9, "its tag")).store("A0H0;B0G0;").calls("tag(0, 1) = 0; tag(0, 2) = 7; tag(1, 1) = 1; tag(1, 2) = 6");
        Twins.refused(Doc.says(9, "BAD_INDEX"), "tag(-1, 1) = BAD_INDEX; tag(4, 1) = BAD_INDEX; tag(0, 0) = BAD_INDEX;"
            + "tag(0, 7) = BAD_INDEX; tag(1, -1) = BAD_INDEX");
    }

    private static void annotatedHead() {
        Arguments.sentence(10, "annotatedHead(?, 1)", "annotatedHead(0, 1) = 0; annotatedHead(3, 1) = 2");
        Arguments.word(10, "annotatedHead(S, ?)", "annotatedHead(0, 1) = 0; annotatedHead(0, 3) = 2; annotatedHead(1, 1) = 0;"
            + "annotatedHead(2, 6) = 5");
        new Script(Doc.says(10, "its head in the annotation")).store("A6B0C0D0E0F5;").calls("annotatedHead(0, 1) = 6;"
            + "annotatedHead(0, 5) = 0; annotatedHead(0, 6) = 5; annotate(0, 6, 0) = 5; annotatedHead(0, 6) = 0;"
            + "acceptBest(0) = 1; annotatedHead(0, 1) = 0");
        Twins.refused(Doc.says(10, "BAD_INDEX"), "annotatedHead(-1, 1) = BAD_INDEX; annotatedHead(4, 1) = BAD_INDEX;"
            + "annotatedHead(0, 0) = BAD_INDEX; annotatedHead(0, 7) = BAD_INDEX; annotatedHead(1, -1) = BAD_INDEX");
    }

    private static void annotate() {
        new Script(Doc.says(11, "Changes the head of a word in the annotation")).store("A0B1C1;D0E1;").calls("annotate(0, 3, 2) = 1;"
            + "annotatedHead(0, 3) = 2; annotatedHead(0, 1) = 0; annotatedHead(0, 2) = 1; annotatedHead(1, 2) = 1; depth(0, 3) = 3");
        Arguments.sentence(11, "annotate(?, 1, 0)", "annotate(0, 1, 0) = 0; annotate(3, 1, 0) = 2");
        Arguments.word(11, "annotate(S, ?, 0)", "annotate(0, 1, 0) = 0; annotate(0, 3, 0) = 2; annotate(1, 1, 0) = 0;"
            + "annotate(2, 6, 0) = 5");
        new Script(Doc.says(11, "head: the new head")).store("A2B0C2;").calls("annotate(0, 1, 3) = 2; annotate(0, 1, 0) = 3;"
            + "annotate(0, 3, 1) = 2; annotate(0, 2, 3) = 0").each("annotate(0, 2, ?)", "BAD_INDEX", 2)
            .outside("annotate(0, 2, ?)", "BAD_INDEX", 0, 3).calls("annotatedHead(0, 2) = 3");
        new Script(Doc.says(11, "the head that it had")).store("A0B0;").calls("annotate(0, 2, 1) = 0; annotate(0, 2, 1) = 1;"
            + "annotate(0, 2, 0) = 1; annotate(0, 2, 0) = 0; annotate(0, 1, 2) = 0; annotate(0, 2, 1) = BAD_VALUE;"
            + "annotate(0, 2, 0) = 0; annotate(0, 1, 0) = 2");
    }

    private static void annotateRefused() {
        Twins.refused(Doc.says(11, "BAD_INDEX if there is no such sentence, word or arc"), "annotate(-1, 1, 0) = BAD_INDEX;"
            + "annotate(4, 1, 0) = BAD_INDEX; annotate(0, 0, 1) = BAD_INDEX; annotate(0, 7, 0) = BAD_INDEX;"
            + "annotate(0, 1, 1) = BAD_INDEX; annotate(0, 1, -1) = BAD_INDEX; annotate(0, 1, 7) = BAD_INDEX;"
            + "annotate(0, 0, 0) = BAD_INDEX");
        String noTree = Doc.says(11, "BAD_VALUE if the annotation would not be a tree");
        // A word below itself over one, and over five others; the arc of a word to itself is no arc at all.
        new Script(noTree).store("A0B1;").calls("annotate(0, 1, 2) = BAD_VALUE; annotatedHead(0, 1) = 0; annotate(0, 1, 1) = BAD_INDEX");
        new Script(noTree).store("A2B3C4D5E6F0;").each("annotate(0, 6, ?)", "BAD_VALUE", 1, 2, 3, 4, 5).calls("annotatedHead(0, 6) = 0;"
            + "annotate(0, 3, 0) = 4; annotate(0, 6, 1) = 0; depth(0, 4) = 6; annotate(0, 3, 4) = BAD_VALUE; annotatedHead(0, 3) = 0");
        // The root has many dependents then, or two arcs cross: it is a tree all the same.
        new Script(noTree).store("A0B1C1D1;").calls("setSingleRoot(true) = 0; setProjective(true) = 0; annotate(0, 2, 0) = 1;"
            + "annotate(0, 4, 2) = 1; annotate(0, 3, 1) = 1; crossings(0) = 2");
        Twins.noTrace(noTree, Twins.Past.SOME, "annotate(0, 2, 1) = BAD_VALUE; annotate(0, 2, 3) = BAD_VALUE");
        Twins.noTrace(noTree, Twins.Past.FULL, "annotate(1, 6, 1) = BAD_VALUE; annotate(3, 2, 1) = BAD_VALUE");
        Twins.noTrace(noTree, Twins.Past.BARREN, "annotate(0, 2, 1) = BAD_VALUE");
    }

    private static void acceptBest() {
        new Script(Doc.says(12, "Makes the best tree the annotation")).store("A2B3C0;").calls("setBias(0, 1, 3, 8) = 0;"
            + "acceptBest(0) = 3; annotatedHead(0, 1) = 0; annotatedHead(0, 2) = 0; annotatedHead(0, 3) = 1; correct(0) = 3");
        Arguments.sentence(12, "acceptBest(?)", "acceptBest(0) = 2; acceptBest(3) = 1; annotatedHead(3, 1) = 0");
        new Script(Doc.says(12, "the number of words whose head changes")).store("A0;A2B3C4D5E6F0;").calls("acceptBest(0) = 0;"
            + "acceptBest(1) = 5; acceptBest(1) = 0; setBias(1, 1, 6, 1) = 0; acceptBest(1) = 1; setBias(1, 2, 1, 9) = 0;"
            + "acceptBest(1) = 1; annotatedHead(1, 1) = 2");
        // All six heads change: the root's only dependent is another word.
        new Script(Doc.says(12, "the number of words whose head changes")).store("A2B3C4D5E6F0;").calls("setSingleRoot(true) = 0;"
            + "acceptBest(0) = 6; annotatedHead(0, 1) = 0; annotatedHead(0, 6) = 1");
        Twins.refused(Doc.says(12, "BAD_INDEX"), "acceptBest(-1) = BAD_INDEX; acceptBest(4) = BAD_INDEX");
        String none = Doc.says(12, "NONE if there is no admissible tree (nothing changes then)");
        Twins.noTrace(none, Twins.Past.BARREN, "acceptBest(0) = NONE");
        new Script(none).store("A2B0;").calls("constrain(0, 0, 1, 1) = 0; constrain(0, 2, 1, 1) = 0; acceptBest(0) = NONE;"
            + "annotatedHead(0, 1) = 2; annotatedHead(0, 2) = 0; constrain(0, 2, 1, 0) = 1; acceptBest(0) = 1; annotatedHead(0, 1) = 0");
    }
}
