/** Promises 2 to 5: the text. */
public final class TextTest {
    public static void main(String[] args) {
        append();
        clearText();
        faultPosition();
        read();
        Script.end();
    }

    private static void append() {
        new Script("2: append").calls("append(0) = 1; append(127) = 2; append(-1) = BAD_VALUE; append(128) = BAD_VALUE;"
            + "append(2147483647) = BAD_VALUE; append(-2147483648) = BAD_VALUE; append(65) = 3; clearText() = 3");
        Script full = new Script("2: append to a full text");
        for (int length = 1; length <= 100; length++) {
            full.calls("append(" + (length % 128) + ") = " + length);
        }
        full.calls("append(65) = FULL; append(128) = BAD_VALUE; append(-1) = BAD_VALUE; clearText() = 100; append(1) = 1");
    }

    private static void clearText() {
        new Script("3: clearText").calls("clearText() = 0").type("A0;").calls("clearText() = 3; clearText() = 0;"
            + "faultPosition() = 0; read() = FAULT; append(65) = 1; faultPosition() = 1");
        // What has been stored is not the text's any more.
        new Script("3: clearText keeps the sentences").store("A0;B0;").calls("clearText() = 0; sentences() = 2");
    }

    private static void faultPosition() {
        fault("", 0);
        fault("A0;", -1000004);
        fault("H2A0G1B2C2D2;A0;", -1000004);
        fault("A0;B2C0;D0;E0;", -1000004);
        endsTooEarly();
        wrongBytes();
        wrongHeads();
        notATree();
        // Looking for a fault leaves nothing behind for the next look.
        new Script("4: twice").type("A0B").calls("faultPosition() = 3; faultPosition() = 3; append(49) = 4;"
            + "faultPosition() = 4; append(59) = 5; faultPosition() = NONE; append(59) = 6; faultPosition() = 5");
    }

    private static void endsTooEarly() {
        fault("A", 1);
        fault("A0", 2);
        fault("A0;B", 4);
        fault("A0;B0", 5);
        fault("A7", 2);
        fault("A2B1", 4);
        fault("A0B0C0D0E0F0", 12);
    }

    private static void wrongBytes() {
        fault(";", 0);
        fault("A0;;", 3);
        fault("I0;", 0);
        fault("@0;", 0);
        fault("a0;", 0);
        fault("0A;", 0);
        fault("A;", 1);
        fault("AA;", 1);
        fault("A/;", 1);
        fault("A:;", 1);
        fault("A0 B0;", 2);
        fault(" A0;", 0);
        fault("A00;", 2);
        fault("A0;\n", 3);
        fault("A0B0C0D0E0F0G", 12);
        fault("A0B0C0D0E0F0G0;", 12);
        fault("A0;B0C0D0E0F0G0;", -1000004);
        fault("A0;B0C0D0E0F0G0H0;", 15);
        fault("A7B", 3);
        fault("A7X", 2);
        fault("A2B1C", 5);
        fault("\0", 0);
        fault("A\0", 1);
    }

    private static void wrongHeads() {
        fault("A1;", 1);
        fault("A1", 1);
        fault("A0B2;", 3);
        fault("A0B0C0D0E0F6;", 11);
        // Above the number of words: a fault at the semicolon alone.
        fault("A2;", 2);
        fault("A7;", 2);
        fault("A9;", 2);
        fault("A9B0;", 4);
        fault("A0B3;", 4);
        fault("A0B3C0;", -1000004);
        fault("A0B0C0D0E0F7;", 12);
        fault("A0B0C0D0E0F9;", 12);
        fault("A6B0C0D0E0F0;", -1000004);
        fault("A0;B2;", 5);
        // The first fault counts.
        fault("A7B2;", 3);
        fault("A7B0;C1;", 4);
    }

    private static void notATree() {
        fault("A2B1;", 4);
        fault("A2B3C1;", 6);
        fault("A0B3C2;", 6);
        fault("A0B3C2D1;", 8);
        fault("A2B3C4D5E6F1;", 12);
        fault("A2B3C4D5E6F0;", -1000004);
        fault("A0B1C2D3E4F5;", -1000004);
        fault("A0;B2C1;D0;", 7);
        // A head is not left over from the sentence before.
        fault("A0B1C2;A3;", 9);
        fault("A0B1C2;A2B3;", 11);
    }

    private static void fault(String text, int due) {
        new Script("4: faultPosition of '" + text + "'").type(text).calls("faultPosition() = " + due + "; clearText() = "
            + text.length());
        new Script("5: read of '" + text + "'").type(text).calls("read() = "
            + (due == -1000004 ? text.chars().filter(c -> c == ';').count() + "" : "FAULT") + "; clearText() = "
            + text.length());
    }

    private static void read() {
        new Script("5: read").type("C2H0A1;B0;").calls("read() = 2; sentences() = 2; words(0) = 3; words(1) = 1;"
            + "tag(0, 1) = 2; tag(0, 2) = 7; tag(0, 3) = 0; tag(1, 1) = 1; annotatedHead(0, 1) = 2;"
            + "annotatedHead(0, 2) = 0; annotatedHead(0, 3) = 1; annotatedHead(1, 1) = 0;"
            + "clearText() = 10");
        new Script("5: the text stays").type("A0;B0;").calls("read() = 2; read() = 4; read() = FULL; sentences() = 4;"
            + "tag(0, 1) = 0; tag(1, 1) = 1; tag(2, 1) = 0; tag(3, 1) = 1; clearText() = 6");
        new Script("5: too many in one text").type("A0;B0;C0;D0;E0;").calls("faultPosition() = NONE; read() = FULL;"
            + "sentences() = 0; words(0) = BAD_INDEX; clearText() = 15");
        new Script("5: too many with the stored ones").store("A0;B0;C0;").type("D0;E0;").calls("read() = FULL;"
            + "sentences() = 3; words(3) = BAD_INDEX; tag(2, 1) = 2; clearText() = 6");
        new Script("5: as many as there is room for").type("A0;B0;C0;D0;").calls("read() = 4; sentences() = 4; tag(3, 1) = 3");
        new Script("5: a fault goes before the lack of room").store("A0;B0;C0;D0;").type("A0").calls("read() = FAULT;"
            + "append(59) = 3; read() = FULL; sentences() = 4");
        new Script("5: a fault stores nothing").type("A0;B0").calls("read() = FAULT; sentences() = 0;"
            + "append(59) = 6; read() = 2");
        // Where a sentence was removed, nothing of it is left for the next one.
        new Script("5: biases 0 and free arcs").store("A0B1C1;").calls("setBias(0, 0, 1, 9) = 0; setBias(0, 2, 3, -9) = 0;"
            + "constrain(0, 1, 2, 2) = 0; constrain(0, 0, 1, 1) = 0; remove(0) = 0").store("D2E0;").calls("words(0) = 2;"
            + "score(0, 0, 1) = 0; setBias(0, 0, 1, 0) = 0; constrain(0, 1, 2, 0) = 0; constrain(0, 0, 1, 0) = 0;"
            + "tag(0, 1) = 3; annotatedHead(0, 1) = 2; annotatedHead(0, 3) = BAD_INDEX; treeCount(0) = 3");
        // What is stored keeps what has been set for it.
        new Script("5: the stored ones stay").store("A0B1;").calls("setBias(0, 0, 2, 5) = 0; constrain(0, 2, 1, 2) = 0")
            .store("C0D0;").calls("score(0, 0, 2) = 5; score(1, 0, 2) = 0; treeCount(0) = 2; treeCount(1) = 3");
    }
}
