/** The boundary cases of the promises 1 to 5: a new object and the text. */
final class TextBoundaries {
    private static final int NO_FAULT = ArcFactoredParser.NONE;

    private TextBoundaries() {
    }

    static void run() {
        newObject();
        append();
        clearText();
        form();
        heads();
        faultPosition();
        read();
        readRefused();
    }

    private static void newObject() {
        new Script(Doc.says(1, "Creates a parser without sentences, with all weights 0, both settings off, the shift 10,"
            + " an empty text and empty slots")).calls("sentences() = 0; words(0) = BAD_INDEX; restore(0) = NONE; restore(1) = NONE;"
            + "save(0) = 0; setSingleRoot(false) = 0; setProjective(false) = 0; setShift(10) = 10; faultPosition() = 0;"
            + "read() = FAULT; clearText() = 0; remove(0) = BAD_INDEX; trainAll(1) = 0");
        Script script = new Script(Doc.says(1, "An object is used for at most 512 calls after it has been made"));
        for (int round = 0; round < 5; round++) {
            script.type("A".repeat(100)).calls("clearText() = 100");
        }
        // 505 calls have been made: the last one that is promised is the 512th.
        script.calls("append(65) = 1; append(48) = 2; append(59) = 3; read() = 1; annotatedHead(0, 1) = 0; words(0) = 1;"
            + "checksum() = " + checksumOfOneWord());
    }

    /** 1 sentence, 1 word; tag 0, head 0, best head 0; score 0, 1 tree, sum 10, 0 crossings, 2 transitions; 84 weights 0. */
    private static long checksumOfOneWord() {
        long h = 13;
        for (int value : new int[] {1, 1, 0, 0, 0, 0, 1, 10, 0, 2}) {
            h = 31 * h + value;
        }
        for (int weight = 0; weight < 84; weight++) {
            h = 31 * h;
        }
        return h;
    }

    private static void append() {
        new Script(Doc.says(2, "Appends a byte to the text")).calls("faultPosition() = 0; append(65) = 1; faultPosition() = 1;"
            + "append(48) = 2; faultPosition() = 2; append(59) = 3; faultPosition() = NONE; append(0) = 4; faultPosition() = 3");
        new Script(Doc.says(2, "letter: 0 to 127")).calls("append(0) = 1; append(1) = 2; append(126) = 3; append(127) = 4")
            .outside("append(?)", "BAD_VALUE", 0, 127).calls("append(321) = BAD_VALUE; clearText() = 4");
        Script script = new Script(Doc.says(2, "the length of the text"));
        for (int length = 1; length <= 100; length++) {
            script.calls("append(" + (length + 27) + ") = " + length);
        }
        Twins.refused(Doc.says(2, "BAD_VALUE"), "append(-1) = BAD_VALUE; append(128) = BAD_VALUE");
        String full = Doc.says(2, "FULL if it has 100 bytes");
        new Script(full).type("A".repeat(99)).calls("append(0) = 100; append(0) = FULL; append(127) = FULL; append(128) = BAD_VALUE;"
            + "append(-1) = BAD_VALUE; faultPosition() = 1; clearText() = 100; append(65) = 1");
        Twins.noTrace(full, Twins.Past.FULL, "append(65) = FULL; append(0) = FULL");
        new Script(Doc.says(2, "The text has at most 100 bytes.")).type(Twins.FULL_TEXT).calls("faultPosition() = NONE;"
            + "append(65) = FULL; faultPosition() = NONE; clearText() = 100; clearText() = 0");
    }

    private static void clearText() {
        new Script(Doc.says(3, "Empties the text")).type(Twins.FULL_TEXT).calls("clearText() = 100; faultPosition() = 0;"
            + "read() = FAULT; append(65) = 1; faultPosition() = 1; append(48) = 2; append(59) = 3; read() = 1; words(0) = 1");
        // Behind the new text nothing of the old one is read: no semicolon, and no head.
        new Script(Doc.says(3, "Empties the text") + ", to its end").type("A0;;").calls("clearText() = 4").type("A0;").calls("faultPosition() = NONE;"
            + "read() = 1; clearText() = 3").type("B0C0;").calls("clearText() = 5").type("B0;").calls("read() = 2; read() = 3; words(1) = 1;"
            + "words(2) = 1; words(3) = BAD_INDEX");
        new Script(Doc.says(3, "the length that it had")).calls("clearText() = 0; clearText() = 0; append(65) = 1; clearText() = 1;"
            + "clearText() = 0").type("A".repeat(99)).calls("clearText() = 99").type("A".repeat(101)).calls("clearText() = 100;"
            + "clearText() = 0");
    }

    private static void form() {
        String several = Doc.says(4, "It consists of one or more sentences, each followed by a semicolon.");
        fault(several, "", 0);
        fault(several, ";", 0);
        fault(several, "A0", 2);
        fault(several, "A0;", NO_FAULT);
        fault(several, "A0;B0", 5);
        fault(several, "A0;B0;", NO_FAULT);
        fault(several, "A0;;", 3);
        fault(several, "A0;".repeat(33), NO_FAULT);
        String words = Doc.says(4, "A sentence consists of 1 to 6 words");
        fault(words, "A0;;B0;", 3);
        fault(words, "A0B0C0D0E0;", NO_FAULT);
        fault(words, "A0B0C0D0E0F0;", NO_FAULT);
        fault(words, "A0B0C0D0E0F0G", 12);
        fault(words, "A0B0C0D0E0F0G0;", 12);
        // The words are counted anew in each sentence.
        fault(words, "A0B0C0D0E0F0;A0B0C0D0E0F0;", NO_FAULT);
        fault(words, "A0B0C0D0E0F0;A0B0C0D0E0F0G0;", 25);
        String between = Doc.says(4, "without anything between them");
        for (char sign : new char[] {' ', ',', '\n', 0, '0', ':', '<', 127}) {
            fault(between, "A0" + sign + "B0;", 2);
            fault(between, "A0;" + sign + "B0;", 3);
            fault(between, "A" + sign + (sign == '0' ? "0" : "") + ";", sign == '0' ? 2 : 1);
        }
        String letter = Doc.says(4, "a word is a letter A to H (its tag)");
        fault(letter, "A0H0;", NO_FAULT);
        for (char sign : new char[] {'@', 'I', 'Z', 'a', 'h', '1', 0, 127}) {
            fault(letter, sign + "0;", 0);
            fault(letter, "A0" + sign + "0;", 2);
        }
        String digit = Doc.says(4, "and a digit (its head, ");
        for (char sign : new char[] {'/', ':', 'A', 'H', ';', ' ', '-', 0, 127}) {
            fault(digit, "A" + sign, 1);
            fault(digit, "A0B" + sign + ";", 3);
        }
    }

    private static void heads() {
        String range = Doc.says(4, "0 to the number of words of the sentence, but not the word itself");
        fault(range, "A0B0;", NO_FAULT);
        fault(range, "A2B0;", NO_FAULT);
        fault(range, "A3B0;", 4);
        fault(range, "A0B0C0D0E0F5;", NO_FAULT);
        fault(range, "A6B0C0D0E0F0;", NO_FAULT);
        fault(range, "A6B0C0D0E0;", 10);
        String greater = Doc.says(4, "a head that is greater than the number of words");
        for (int words = 1; words <= 6; words++) {
            for (int head = words + 1; head <= 9; head++) {
                String before = "A0".repeat(words - 1);
                fault(greater, before + "A" + head + ";", 2 * words);
                // Without the semicolon it is not found: the text ends too early.
                fault(greater, before + "A" + head, 2 * words);
                fault(greater, "B0;" + before + "A" + head + ";C0;", 3 + 2 * words);
            }
        }
        fault(greater, "A7I", 2);
        fault(greater, "A9B9C3", 5);
        fault(greater, "A9;B1;", 2);
        String tree = Doc.says(4, "or with which the heads of the sentence do not form a tree, is only found at the semicolon");
        fault(tree, "A2B1", 4);
        fault(tree, "A2B1;", 4);
        fault(tree, "A2B1C0;", 6);
        fault(tree, "A0B3C2;", 6);
        fault(tree, "A2B3C4D5E6F1;", 12);
        fault(tree, "A2B3C4D5E6F0;", NO_FAULT);
        fault(tree, "A0B6C2D3E4F5;", 12);
        fault(tree, "A2B1I", 4);
        fault(tree, "A2B1C3", 5);
        // No word has the head 0.
        fault(tree, "A2B3C1;", 6);
        String itself = Doc.says(4, "A head equal to the number of its word is a fault at its digit.");
        for (int word = 1; word <= 6; word++) {
            fault(itself, "A0".repeat(word - 1) + "A" + word, 2 * word - 1);
            fault(itself, "A0".repeat(word - 1) + "A" + word + ";", 2 * word - 1);
        }
        // It comes before faults that are only found at the semicolon.
        fault(itself, "A9B2;", 3);
        fault(itself, "A9B0C0D0E0F6;", 11);
        fault(itself, "A2B1C3;", 5);
    }

    private static void faultPosition() {
        String position = Doc.says(4, "the fault position of the text");
        fault(position, "x", 0);
        fault(position, "A0;".repeat(33) + "x", 99);
        fault(position, "A0;".repeat(32) + "A0B2", 99);
        fault(position, "A0;".repeat(31) + "A0B2C2;", 96);
        fault(position, "xx", 0);
        fault(Doc.says(4, "the index, counted from 0, of the first byte with which the text does not follow this form"),
            "A0x0;A1;", 2);
        fault(Doc.says(4, "NONE if it has no fault"), "A0;", NO_FAULT);
        fault(Doc.says(4, "NONE if it has no fault"), Twins.FULL_TEXT, NO_FAULT);
        String early = Doc.says(4, "if the text ends too early (also if it is empty), it is its length");
        fault(early, "", 0);
        String text = "A2B0;C0D3E1;";
        for (int length = 0; length <= text.length(); length++) {
            boolean whole = length == 5 || length == text.length();
            fault(early, text.substring(0, length), whole ? NO_FAULT : length);
        }
        fault(early, "A0;".repeat(33) + "A", 100);
        fault(early, "A0;".repeat(32) + "A0B1", 100);
        fault(early, Twins.FULL_TEXT.substring(0, 99), 99);
    }

    private static void fault(String name, String text, int due) {
        new Script(name + " with " + text).type(text).calls("faultPosition() = " + due + "; faultPosition() = " + due
            + "; clearText() = " + text.length());
    }

    private static void read() {
        String stores = Doc.says(5, "Stores the sentences of the text behind those that are stored, with biases 0 and free arcs");
        new Script(stores).store("A0B1;").calls("setBias(0, 0, 1, 9) = 0; constrain(0, 0, 2, 2) = 0").store("C2D0;E0;")
            .calls("words(0) = 2; words(1) = 2; words(2) = 1; tag(0, 1) = 0; tag(1, 1) = 2; tag(2, 1) = 4; setBias(0, 0, 1, 9) = 9;"
            + "constrain(0, 0, 2, 2) = 2; setBias(1, 0, 1, 0) = 0; constrain(1, 0, 2, 0) = 0; setBias(2, 0, 1, 0) = 0;"
            + "constrain(2, 0, 1, 0) = 0; words(3) = BAD_INDEX");
        // A sentence of six words was at its place before: all of its 36 arcs are blank again.
        Script again = new Script(stores + ", at a place that was used").store("A0B0C0D0E0F0;");
        arcs(again, "setBias(0, H, W, 9) = 0; constrain(0, H, W, 1) = 0;");
        again.calls("remove(0) = 0").store("A0B0C0D0E0F0;");
        arcs(again, "setBias(0, H, W, 0) = 0; constrain(0, H, W, 0) = 0;");
        new Script(Doc.says(5, "The heads in the text are their annotations")).store("A2B3C4D5E6F0;A0B1C2D3E4F5;").calls(
            "annotatedHead(0, 1) = 2; annotatedHead(0, 5) = 6; annotatedHead(0, 6) = 0; annotatedHead(1, 1) = 0;"
            + "annotatedHead(1, 2) = 1; annotatedHead(1, 6) = 5");
        new Script(Doc.says(5, "The text stays")).type("A0;").calls("read() = 1; faultPosition() = NONE; read() = 2; read() = 3;"
            + "read() = 4; read() = FULL; faultPosition() = NONE; append(65) = 4; read() = FAULT; clearText() = 4");
        new Script(Doc.says(5, "the number of stored sentences")).type("A0;").calls("read() = 1; append(65) = 4; append(48) = 5;"
            + "append(59) = 6; read() = 3; clearText() = 6; remove(0) = 2; remove(0) = 1; remove(0) = 0").type("A0;B0;C0;D0;")
            .calls("read() = 4; sentences() = 4");
    }

    private static void arcs(Script script, String calls) {
        for (int head = 0; head <= 6; head++) {
            for (int word = 1; word <= 6; word++) {
                if (head != word) {
                    script.calls(calls.replace("H", "" + head).replace("W", "" + word));
                }
            }
        }
    }

    private static void readRefused() {
        String fault = Doc.says(5, "FAULT if the text has a fault");
        Twins.noTrace(fault, Twins.Past.NEW, "read() = FAULT");
        Twins.noTrace(fault, Twins.Past.SOME, "read() = FAULT");
        Twins.noTrace(fault, Twins.Past.BARREN, "read() = FAULT");
        // The sentences in front of the fault are not stored either, and a fault is found before the lack of room.
        new Script(fault).type("A0;B0;C0").calls("read() = FAULT; sentences() = 0; append(59) = 9; read() = 3; append(65) = 10;"
            + "read() = FAULT; sentences() = 3; append(48) = 11; read() = FAULT; append(59) = 12; read() = FULL");
        String full = Doc.says(5, "FULL if there would be more than 4 (then none is stored)");
        Twins.noTrace(full, Twins.Past.FULL, "read() = FULL");
        for (int stored = 0; stored <= 4; stored++) {
            for (int more = 1; more <= 6; more++) {
                int due = stored + more > 4 ? ArcFactoredParser.FULL : stored + more;
                Script script = new Script(full + ", " + stored + " and " + more);
                for (int i = 0; i < stored; i++) {
                    script.store("A0;");
                }
                script.type("B0;".repeat(more)).calls("read() = " + due + "; sentences() = " + (due > 0 ? due : stored)
                    + "; clearText() = " + 3 * more);
            }
        }
    }
}
