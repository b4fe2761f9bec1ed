import java.util.List;

/** The boundary cases of the promises 34 to 38: annotations as trees. */
final class AnnotationBoundaries {
    private static final int SHIFT = 0;
    private static final int LEFT = 1;
    private static final int RIGHT = 2;
    private static final int SWAP = 3;
    /** The sentence with the most transitions that there can be. */
    private static final String LONGEST = "A6B6C5D0E4F5;";

    private AnnotationBoundaries() {
    }

    static void run() {
        crossings();
        depth();
        projectiveOrder();
        steps();
        transitions();
        transition();
        allTrees();
    }

    private static void crossings() {
        String cross = Doc.says(34, "Two arcs cross if, written as a < b and c < d by the numbers of their two ends,"
            + " a < c < b < d or c < a < d < b.");
        // Of two arcs that cross, the one with the lower ends belongs now to the earlier word, now to the later one.
        crossing(cross + " a < c < b < d", "A0B0C1;", 1);
        crossing(cross + " c < a < d < b", "A3B0C0;", 1);
        crossing(cross + " a = c", "A0B0C0;", 0);
        crossing(cross + " b = d", "A2B0;", 0);
        crossing(cross + " b = c", "A0B1C2;", 0);
        crossing(cross + " one inside the other", "A3B1C0;", 0);
        crossing(cross + " one behind the other", "A0B3C0;", 0);
        Arguments.sentence(34, "crossings(?)", "crossings(0) = 0; annotate(0, 1, 3) = BAD_VALUE; annotate(0, 3, 1) = 2;"
            + "annotate(0, 2, 0) = 1; crossings(0) = 1; crossings(3) = 0");
        String number = Doc.says(34, "the number of pairs of arcs of the annotation that cross");
        crossing(number, "A0;", 0);
        crossing(number, "A0B0C0D0E0F0;", 0);
        crossing(number, "A0B1C2D3E4F5;", 0);
        // Ten of the fifteen pairs of its arcs cross; no tree has more.
        crossing(number, "A5B6C0D1E2F3;", 10);
        Twins.refused(Doc.says(34, "BAD_INDEX"), "crossings(-1) = BAD_INDEX; crossings(4) = BAD_INDEX");
        // Settings and constraints are not for annotations.
        new Script(number + ", with projective on").store("A3B0C0;").calls("setProjective(true) = 0; crossings(0) = 1;"
            + "constrain(0, 3, 1, 2) = 0; crossings(0) = 1");
    }

    private static void crossing(String name, String text, int due) {
        new Script(name + " in " + text).store(text).calls("crossings(0) = " + due);
    }

    private static void depth() {
        Arguments.sentence(35, "depth(?, 1)", "depth(0, 1) = 1; depth(3, 1) = 2");
        Arguments.word(35, "depth(S, ?)", "depth(0, 1) = 1; depth(0, 3) = 3; depth(1, 1) = 1; depth(2, 6) = 6");
        String number = Doc.says(35, "the number of arcs from the word to the root in the annotation");
        new Script(number).store("A0;A0B0C0D0E0F0;A2B3C4D5E6F0;").calls("depth(0, 1) = 1; depth(1, 1) = 1; depth(1, 6) = 1;"
            + "depth(2, 6) = 1; depth(2, 5) = 2; depth(2, 2) = 5; depth(2, 1) = 6; annotate(2, 1, 6) = 2; depth(2, 1) = 2");
        Twins.refused(Doc.says(35, "BAD_INDEX"), "depth(-1, 1) = BAD_INDEX; depth(4, 1) = BAD_INDEX; depth(0, 0) = BAD_INDEX;"
            + "depth(0, 7) = BAD_INDEX");
    }

    private static void projectiveOrder() {
        String terms = Doc.says(36, "for a node, the sequences of its dependents with lower numbers, in ascending order, then the node"
            + " itself, then the sequences of its dependents with higher numbers, in ascending order; it begins with the root");
        order(terms, "A0;", 1);
        order(terms, "A0B0C0D0E0F0;", 1, 2, 3, 4, 5, 6);
        order(terms, "A3B3C0D3E3;", 1, 2, 3, 4, 5);
        order(terms, "A6B1C2D3E4F0;", 1, 2, 3, 4, 5, 6);
        // What is below 1 stands with 1, in front of 2.
        order(terms, "A3B3C0D1E2;", 1, 4, 2, 5, 3);
        // 2 is below 5, which is below 1: so it comes behind 1.
        order(terms, "A0B5C0D1E1;", 1, 4, 2, 5, 3);
        order(terms, "A4B4C6D0E4F4;", 1, 2, 4, 5, 3, 6);
        Arguments.sentence(36, "projectiveOrder(?, 0)", "annotate(0, 1, 0) = 0; projectiveOrder(0, 0) = 1; projectiveOrder(3, 0) = 1;"
            + "projectiveOrder(0, 2) = 3; projectiveOrder(3, 1) = 2");
        String index = Doc.says(36, "index: the index in the projective order of the annotation without the root, counted from 0");
        new Script(index).store("A3B0C2;D0;E6F0G0H0A0B2;").calls("projectiveOrder(0, 0) = 2; projectiveOrder(0, 1) = 1;"
            + "projectiveOrder(0, 2) = 3; projectiveOrder(1, 0) = 1; projectiveOrder(2, 0) = 2; projectiveOrder(2, 1) = 1;"
            + "projectiveOrder(2, 2) = 6; projectiveOrder(2, 5) = 5").outside("projectiveOrder(0, ?)", "BAD_INDEX", 0, 2)
            .outside("projectiveOrder(1, ?)", "BAD_INDEX", 0, 0).outside("projectiveOrder(2, ?)", "BAD_INDEX", 0, 5);
        order(Doc.says(36, "the word"), "A2B0C1;", 1, 3, 2);
        Twins.refused(Doc.says(36, "BAD_INDEX if there is no such sentence or index"), "projectiveOrder(-1, 0) = BAD_INDEX;"
            + "projectiveOrder(4, 0) = BAD_INDEX; projectiveOrder(0, -1) = BAD_INDEX; projectiveOrder(0, 6) = BAD_INDEX;"
            + "projectiveOrder(4, 6) = BAD_INDEX");
    }

    private static void order(String name, String text, int... due) {
        Script script = new Script(name + ": " + text).store(text);
        for (int i = 0; i < due.length; i++) {
            script.calls("projectiveOrder(0, " + i + ") = " + due[i]);
        }
        script.calls("projectiveOrder(0, " + due.length + ") = BAD_INDEX");
    }

    private static void steps() {
        String start = Doc.says(38, "A configuration consists of a stack, at first with the root alone, a buffer, at first with all words in"
            + " ascending order, and a set of attached words, at first empty.");
        // With the root alone nothing but a shift applies, and the first word is shifted first.
        sequence(start, "A0;", SHIFT, RIGHT);
        sequence(start, "A2B0;", SHIFT, SHIFT, LEFT, RIGHT);
        String tops = Doc.says(38, "The transition sequence of a tree is determined step by step; let j be the top of the stack and i the one"
            + " below it.");
        sequence(tops, "A0B1;", SHIFT, SHIFT, RIGHT, RIGHT);
        String first = Doc.says(38, "The first of the following that applies is the next transition:");
        // A shift would apply as well where RIGHT, LEFT and SWAP are made.
        sequence(first, "A0B0;", SHIFT, RIGHT, SHIFT, RIGHT);
        sequence(first, "A2B0C2;", SHIFT, SHIFT, LEFT, SHIFT, RIGHT, RIGHT);
        sequence(first, "A3B0C2;", SHIFT, SHIFT, SWAP, SHIFT, SHIFT, LEFT, RIGHT, RIGHT);
        String left = Doc.says(38, "LEFT (1), if the stack has at least two entries, i is not the root, j is the head of i, and all dependents"
            + " of i are attached: i is attached and removed from the stack.");
        sequence(left, "A3B3C0;", SHIFT, SHIFT, SHIFT, LEFT, LEFT, RIGHT);
        // 2 is the head of 1, but 3 below 1 is not attached yet: 2 has to make way first.
        sequence(left, "A2B0C1;", SHIFT, SHIFT, SHIFT, SWAP, RIGHT, SHIFT, LEFT, RIGHT);
        String right = Doc.says(38, "RIGHT (2), if the stack has at least two entries, i is the head of j, and all dependents of j are"
            + " attached: j is attached and removed from the stack.");
        sequence(right, "A0B1C1;", SHIFT, SHIFT, RIGHT, SHIFT, RIGHT, RIGHT);
        // Each word waits for the one below it.
        sequence(right, "A0B1C2D3;", SHIFT, SHIFT, SHIFT, SHIFT, RIGHT, RIGHT, RIGHT, RIGHT);
        String swap = Doc.says(38, "SWAP (3), if the stack has at least two entries, i is not the root, i is lower than j, and i comes after"
            + " j in the projective order: i is removed from the stack and put in front of the buffer.");
        sequence(swap, "A3B0C0;", SHIFT, SHIFT, SWAP, RIGHT, SHIFT, SHIFT, LEFT, RIGHT);
        // Two swaps one after the other: the word that was swapped last comes back first.
        sequence(swap, "A2B3C0D1;", SHIFT, SHIFT, SHIFT, SHIFT, SWAP, SWAP, RIGHT, SHIFT, LEFT, SHIFT, LEFT, RIGHT);
        String shift = Doc.says(38, "SHIFT (0), if the buffer is not empty: the first entry of the buffer becomes the top of the stack.");
        sequence(shift, "A4B4C4D0;", SHIFT, SHIFT, SHIFT, SHIFT, LEFT, LEFT, LEFT, RIGHT);
        sequence(shift, "A0B0C0;", SHIFT, RIGHT, SHIFT, RIGHT, SHIFT, RIGHT);
    }

    private static void sequence(String name, String text, int... due) {
        Script script = new Script(name + ": " + text).store(text).calls("transitions(0) = " + due.length);
        for (int i = 0; i < due.length; i++) {
            script.calls("transition(0, " + i + ") = " + due[i]);
        }
        script.calls("transition(0, " + due.length + ") = NONE");
    }

    private static void transitions() {
        Arguments.sentence(37, "transitions(?)", "transitions(0) = 6; annotate(0, 2, 0) = 1; annotate(0, 3, 1) = 2; transitions(0) = 8;"
            + "transitions(3) = 4");
        // Without swaps two for each word; the most are 26.
        new Script(Doc.says(37, "the length of the transition sequence of the annotation")).store("A0;A0B0C0D0E0F0;A2B3C4D5E6F0;" + LONGEST)
            .calls("transitions(0) = 2; transitions(1) = 12; transitions(2) = 12; transitions(3) = 26; transition(3, 25) = 2;"
            + "transition(3, 26) = NONE; annotate(3, 1, 2) = 6; setProjective(true) = 0; transitions(1) = 12");
        Twins.refused(Doc.says(37, "BAD_INDEX"), "transitions(-1) = BAD_INDEX; transitions(4) = BAD_INDEX");
    }

    private static void transition() {
        Arguments.sentence(38, "transition(?, 0)", "transition(0, 0) = 0; transition(3, 0) = 0; transition(0, 2) = 0; transition(3, 2) = 1");
        new Script(Doc.says(38, "index: the index of a transition, counted from 0")).store("A0;" + LONGEST).calls("transition(0, 0) = 0;"
            + "transition(0, 1) = 2; transition(1, 0) = 0; transition(1, 3) = 3; transition(1, 25) = 2").outside("transition(0, ?)", "NONE", 0, 1)
            .outside("transition(1, ?)", "NONE", 0, 25);
        sequence(Doc.says(38, "the transition, 0 to 3"), LONGEST, SHIFT, SHIFT, SHIFT, SWAP, SWAP, SHIFT, SHIFT, SHIFT, SWAP, SWAP, SWAP,
            SHIFT, SHIFT, SHIFT, SHIFT, SWAP, SWAP, LEFT, SHIFT, SHIFT, SHIFT, LEFT, LEFT, RIGHT, RIGHT, RIGHT);
        Twins.refused(Doc.says(38, "BAD_INDEX if there is no such sentence"), "transition(-1, 0) = BAD_INDEX; transition(4, 0) = BAD_INDEX;"
            + "transition(4, -1) = BAD_INDEX; transition(-1, 100) = BAD_INDEX");
        String none = Doc.says(38, "NONE if there are not so many transitions (also if index is negative)");
        new Script(none).store("A0B0;").calls("transition(0, 3) = 2; transition(0, 4) = NONE; transition(0, -1) = NONE;"
            + "transition(1, -1) = BAD_INDEX").outside("transition(0, ?)", "NONE", 0, 3);
        for (Twins.Past past : new Twins.Past[] {Twins.Past.SOME, Twins.Past.FULL, Twins.Past.BARREN}) {
            Twins.noTrace(none, past, "transition(0, -1) = NONE; transition(0, 64) = NONE");
        }
    }

    /** Each of the 18248 trees, compared with the plain parser; a sequence has as many shifts as it has words and swaps. */
    private static void allTrees() {
        String name = Doc.says(37, "The sequence ends when none applies; then all words are attached.");
        for (int size = 1; size <= 6; size++) {
            for (int[] heads : PlainParser.trees(size)) {
                StringBuilder text = new StringBuilder();
                for (int head : heads) {
                    text.append('A').append(head);
                }
                text.append(';');
                Script.check(name + ": " + text, isPerformed(text.toString(), size));
            }
        }
    }

    private static boolean isPerformed(String text, int size) {
        ArcFactoredParser parser = new ArcFactoredParser();
        PlainParser plain = new PlainParser();
        for (char letter : text.toCharArray()) {
            parser.append(letter);
            plain.append(letter);
        }
        boolean same = parser.read() == plain.read() && parser.crossings(0) == plain.crossings(0)
            && parser.transitions(0) == plain.transitions(0);
        for (int word = 1; word <= size; word++) {
            same &= parser.depth(0, word) == plain.depth(0, word)
                && parser.projectiveOrder(0, word - 1) == plain.projectiveOrder(0, word - 1);
        }
        int[] made = new int[4];
        List<Integer> due = plain.sequence(0);
        for (int i = 0; i < due.size(); i++) {
            same &= parser.transition(0, i) == due.get(i);
            made[due.get(i)]++;
        }
        return same && made[LEFT] + made[RIGHT] == size && made[SHIFT] == size + made[SWAP];
    }
}
