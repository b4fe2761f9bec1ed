/** The arguments that many calls have in common: which of their values are inside, and which are not. */
final class Arguments {
    private static final String THREE = "A0B1C2;D0;E0D1C2B3A4H5;";

    private Arguments() {
    }

    /**
     * The number of a sentence stands for the question mark. The calls that are answered are made
     * with four sentences, the first of three words and the last of two.
     */
    static void sentence(int promise, String call, String answered) {
        String name = Doc.says(promise, "sentence: a sentence");
        new Script(name + ", none").outside(call, "BAD_INDEX", 0, -1).each(call, "BAD_INDEX", 0, 1, 2, 3, 4);
        new Script(name + ", one").store("A0B1C2;").outside(call, "BAD_INDEX", 0, 0).each(call, "BAD_INDEX", 2, 3);
        new Script(name + ", four").store("A0B1C2;D0;E0;H2A0;").outside(call, "BAD_INDEX", 0, 3).calls(answered);
        new Script(name + ", one was removed").store("A0B1C2;D0;E0;H2A0;").calls("remove(0) = 3").each(call, "BAD_INDEX", 3, 4);
    }

    /** The number of a word stands for the question mark, that of its sentence for S; the sentences have three, one and six words. */
    static void word(int promise, String call, String answered) {
        String name = Doc.says(promise, "word: a word");
        new Script(name).store(THREE).outside(call.replace("S", "0"), "BAD_INDEX", 1, 3).outside(call.replace("S", "1"), "BAD_INDEX", 1, 1)
            .outside(call.replace("S", "2"), "BAD_INDEX", 1, 6).each(call.replace("S", "1"), "BAD_INDEX", 3, 6)
            .each(call.replace("S", "0"), "BAD_INDEX", 5, 6).calls(answered);
    }

    /** The head of an arc to word 2 stands for the question mark, in the same sentences. */
    static void head(int promise, String call, String answered) {
        String name = Doc.says(promise, "head: the head");
        new Script(name).store(THREE).outside(call.replace("S", "0"), "BAD_INDEX", 0, 3).each(call.replace("S", "0"), "BAD_INDEX", 2, 6)
            .outside(call.replace("S", "2"), "BAD_INDEX", 0, 6).each(call.replace("S", "2"), "BAD_INDEX", 2).calls(answered);
    }

    /** The word of an arc stands for the question mark, its head 2 for H, in the same sentences. */
    static void arcWord(int promise, String call, String answered) {
        String name = Doc.says(promise, "word: the word");
        String below2 = call.replace("H", "2");
        String below0 = call.replace("H", "0");
        new Script(name).store(THREE).outside(below2.replace("S", "0"), "BAD_INDEX", 1, 3).each(below2.replace("S", "0"), "BAD_INDEX", 2, 6)
            .outside(below0.replace("S", "1"), "BAD_INDEX", 1, 1).outside(below0.replace("S", "2"), "BAD_INDEX", 1, 6).calls(answered);
    }
}
