/** Promises 6 to 12: the stored sentences and their annotations. */
public final class SentencesTest {
    public static void main(String[] args) {
        remove();
        sentences();
        wordsAndTags();
        annotate();
        acceptBest();
        Script.end();
    }

    private static void remove() {
        new Script("6: remove").store("A0;B0C1;D0E1F1;G0;").calls("remove(4) = BAD_INDEX; remove(-1) = BAD_INDEX;"
            + "setBias(2, 0, 3, 7) = 0; constrain(2, 1, 2, 1) = 0; setBias(1, 0, 2, -3) = 0;"
            + "remove(1) = 3; sentences() = 3; words(0) = 1; words(1) = 3; words(2) = 1; words(3) = BAD_INDEX;"
            + "tag(0, 1) = 0; tag(1, 1) = 3; tag(2, 1) = 6; annotatedHead(1, 2) = 1;"
            + "score(1, 0, 3) = 7; score(1, 0, 2) = 0; setBias(1, 0, 3, 0) = 7; constrain(1, 1, 2, 0) = 1;"
            + "remove(0) = 2; tag(0, 1) = 3; tag(1, 1) = 6; remove(1) = 1; tag(0, 1) = 3; remove(1) = BAD_INDEX;"
            + "remove(0) = 0; remove(0) = BAD_INDEX; sentences() = 0");
        new Script("6: remove a middle one").store("A0;B0;C0;D0;").calls("remove(2) = 3; tag(0, 1) = 0; tag(1, 1) = 1;"
            + "tag(2, 1) = 3").store("E0;").calls("tag(3, 1) = 4; sentences() = 4; remove(3) = 3; tag(2, 1) = 3");
        new Script("6: of a new object").calls("remove(0) = BAD_INDEX; remove(2147483647) = BAD_INDEX;"
            + "remove(-2147483648) = BAD_INDEX");
        // The weights and settings are not the sentence's.
        new Script("6: weights stay").store("A0;").calls("setTagWeight(8, 0, 4) = 0; setShift(3) = 10; remove(0) = 0;"
            + "tagWeight(8, 0) = 4; setShift(3) = 3");
    }

    private static void sentences() {
        new Script("7: sentences").calls("sentences() = 0").store("A0;").calls("sentences() = 1").store("A0;B0;")
            .calls("sentences() = 3").store("A0;").calls("sentences() = 4; remove(0) = 3; sentences() = 3");
    }

    private static void wordsAndTags() {
        new Script("8: words").store("A0;A0B1C2D3E4F5;").calls("words(0) = 1; words(1) = 6; words(2) = BAD_INDEX;"
            + "words(-1) = BAD_INDEX; words(4) = BAD_INDEX; words(2147483647) = BAD_INDEX; words(-2147483648) = BAD_INDEX");
        new Script("9: tag").store("A0B1C2D3E4F5;G0H1;").calls("tag(0, 1) = 0; tag(0, 2) = 1; tag(0, 3) = 2; tag(0, 4) = 3;"
            + "tag(0, 5) = 4; tag(0, 6) = 5; tag(1, 1) = 6; tag(1, 2) = 7; tag(0, 0) = BAD_INDEX; tag(0, 7) = BAD_INDEX;"
            + "tag(1, 3) = BAD_INDEX; tag(1, 6) = BAD_INDEX; tag(2, 1) = BAD_INDEX; tag(-1, 1) = BAD_INDEX;"
            + "tag(0, -1) = BAD_INDEX; tag(0, 2147483647) = BAD_INDEX");
        new Script("10: annotatedHead").store("A6B1C2D3E0F5;G0;").calls("annotatedHead(0, 1) = 6; annotatedHead(0, 2) = 1;"
            + "annotatedHead(0, 3) = 2; annotatedHead(0, 4) = 3; annotatedHead(0, 5) = 0; annotatedHead(0, 6) = 5;"
            + "annotatedHead(1, 1) = 0; annotatedHead(1, 2) = BAD_INDEX; annotatedHead(0, 0) = BAD_INDEX;"
            + "annotatedHead(0, 7) = BAD_INDEX; annotatedHead(0, -1) = BAD_INDEX; annotatedHead(2, 1) = BAD_INDEX;"
            + "annotatedHead(-1, 1) = BAD_INDEX");
    }

    private static void annotate() {
        new Script("11: annotate").store("A0B1C2;D0;").calls("annotate(0, 3, 0) = 2; annotatedHead(0, 3) = 0;"
            + "annotate(0, 3, 0) = 0; annotate(0, 1, 3) = 0; annotatedHead(0, 1) = 3; annotatedHead(0, 2) = 1;"
            + "annotate(0, 3, 2) = BAD_VALUE; annotate(0, 3, 1) = BAD_VALUE; annotatedHead(0, 3) = 0;"
            + "annotate(0, 3, 3) = BAD_INDEX; annotate(0, 3, 4) = BAD_INDEX; annotate(0, 3, -1) = BAD_INDEX;"
            + "annotate(0, 0, 1) = BAD_INDEX; annotate(0, 4, 1) = BAD_INDEX; annotate(2, 1, 0) = BAD_INDEX;"
            + "annotate(-1, 1, 0) = BAD_INDEX; annotate(1, 1, 0) = 0; annotate(1, 1, 1) = BAD_INDEX;"
            + "annotate(1, 1, 2) = BAD_INDEX; annotatedHead(1, 1) = 0");
        new Script("11: annotate a long cycle").store("A0B1C2D3E4F5;").calls("annotate(0, 1, 6) = BAD_VALUE;"
            + "annotate(0, 1, 2) = BAD_VALUE; annotatedHead(0, 1) = 0; annotate(0, 6, 0) = 5; annotate(0, 1, 6) = 0;"
            + "annotate(0, 6, 1) = BAD_VALUE; annotatedHead(0, 6) = 0");
        // Constraints and settings are for admissible trees, not for annotations.
        new Script("11: constraints do not matter").store("A0B0;").calls("constrain(0, 1, 2, 2) = 0;"
            + "setSingleRoot(true) = 0; annotate(0, 2, 1) = 0; annotate(0, 2, 0) = 1");
    }

    private static void acceptBest() {
        new Script("12: acceptBest").store("A2B3C0;").calls("acceptBest(0) = 2; annotatedHead(0, 1) = 0;"
            + "annotatedHead(0, 2) = 0; annotatedHead(0, 3) = 0; acceptBest(0) = 0; setBias(0, 3, 1, 5) = 0;"
            + "acceptBest(0) = 1; annotatedHead(0, 1) = 3; annotatedHead(0, 2) = 0;"
            + "acceptBest(1) = BAD_INDEX; acceptBest(-1) = BAD_INDEX");
        new Script("12: the last word").store("A0B1;").calls("acceptBest(0) = 1; annotatedHead(0, 1) = 0; annotatedHead(0, 2) = 0;"
            + "setBias(0, 1, 2, 1) = 0; acceptBest(0) = 1; annotatedHead(0, 2) = 1; correct(0) = 2");
        new Script("12: without an admissible tree").store("A0B1;").calls("constrain(0, 1, 2, 1) = 0; constrain(0, 0, 2, 1) = 0;"
            + "acceptBest(0) = NONE; annotatedHead(0, 1) = 0; annotatedHead(0, 2) = 1");
    }
}
