/** Promises 34 to 38: annotations as trees. */
public final class AnnotationsTest {
    private static final int SHIFT = 0;
    private static final int LEFT = 1;
    private static final int RIGHT = 2;
    private static final int SWAP = 3;

    public static void main(String[] args) {
        crossings();
        depth();
        projectiveOrder();
        transitions();
        Script.end();
    }

    private static void crossings() {
        new Script("34: crossings").store("A0B1C1D2;A3B0C2;A3B4C0D3;A0B1;").calls("crossings(0) = 1; crossings(1) = 1;"
            + "crossings(2) = 2; crossings(3) = 0; crossings(4) = BAD_INDEX; crossings(-1) = BAD_INDEX");
        // Arcs with a common end do not cross, and an arc inside another one does not either.
        new Script("34: none").store("A0B0C0D0E0F0;A0B1C2D3E4F5;A6B1C2D3E4F0;").calls("crossings(0) = 0; crossings(1) = 0;"
            + "crossings(2) = 0");
        // 1-4, 2-5 and 3-6 cross one another; 0-4 crosses two of them and 0-5 one; 1-6 crosses 0-4 and 0-5.
        new Script("34: many").store("A4B5C6D0E0F0;").calls("crossings(0) = 6; annotate(0, 6, 1) = 0; crossings(0) = 8");
        new Script("34: after annotate").store("A0B0C1;").calls("crossings(0) = 1; annotate(0, 2, 1) = 0; crossings(0) = 0");
        new Script("34: with the root").store("A3B0C0;").calls("crossings(0) = 1; annotate(0, 2, 1) = 0; crossings(0) = 0");
    }

    private static void depth() {
        new Script("35: depth").store("A0B1C2D3E4F5;A2B0;").calls("depth(0, 1) = 1; depth(0, 2) = 2; depth(0, 3) = 3;"
            + "depth(0, 4) = 4; depth(0, 5) = 5; depth(0, 6) = 6; depth(1, 1) = 2; depth(1, 2) = 1; depth(1, 3) = BAD_INDEX;"
            + "depth(0, 0) = BAD_INDEX; depth(0, 7) = BAD_INDEX; depth(0, -1) = BAD_INDEX; depth(2, 1) = BAD_INDEX;"
            + "depth(-1, 1) = BAD_INDEX; annotate(0, 4, 0) = 3; depth(0, 6) = 3; depth(0, 3) = 3");
    }

    private static void projectiveOrder() {
        order("A0B0C0;", 1, 2, 3);
        order("A3B0C2;", 2, 1, 3);
        order("A3B0C2D1;", 2, 1, 4, 3);
        order("A6B6C6D1E1F0;", 1, 4, 5, 2, 3, 6);
        order("A0B0C1D2E1F2;", 1, 3, 5, 2, 4, 6);
        order("A0;", 1);
        // 4 has the lower dependent 2, which stands behind the root's dependent 1 with all that is below it.
        order("A0B4C1D0;", 1, 3, 2, 4);
        new Script("36: bad indices").store("A0B1;").calls("projectiveOrder(0, -1) = BAD_INDEX; projectiveOrder(0, 2) = BAD_INDEX;"
            + "projectiveOrder(0, 6) = BAD_INDEX; projectiveOrder(0, 2147483647) = BAD_INDEX;"
            + "projectiveOrder(0, -2147483648) = BAD_INDEX; projectiveOrder(1, 0) = BAD_INDEX;"
            + "projectiveOrder(-1, 0) = BAD_INDEX");
    }

    private static void order(String text, int... due) {
        Script script = new Script("36: projectiveOrder of " + text).store(text);
        for (int i = 0; i < due.length; i++) {
            script.calls("projectiveOrder(0, " + i + ") = " + due[i]);
        }
        script.calls("projectiveOrder(0, " + due.length + ") = BAD_INDEX");
    }

    private static void transitions() {
        sequence("A0;", SHIFT, RIGHT);
        sequence("A0B1;", SHIFT, SHIFT, RIGHT, RIGHT);
        sequence("A2B0;", SHIFT, SHIFT, LEFT, RIGHT);
        sequence("A0B0;", SHIFT, RIGHT, SHIFT, RIGHT);
        sequence("A2B0C2;", SHIFT, SHIFT, LEFT, SHIFT, RIGHT, RIGHT);
        // 1 is the head of 2, but waits for 3 below 2.
        sequence("A0B1C2;", SHIFT, SHIFT, SHIFT, RIGHT, RIGHT, RIGHT);
        sequence("A3B0C2;", SHIFT, SHIFT, SWAP, SHIFT, SHIFT, LEFT, RIGHT, RIGHT);
        sequence("A3B0C0;", SHIFT, SHIFT, SWAP, RIGHT, SHIFT, SHIFT, LEFT, RIGHT);
        // In the projective order 2 comes first, then 1, 4, 3: two swaps, each followed by a shift more.
        sequence("A3B0C2D1;", SHIFT, SHIFT, SWAP, SHIFT, SHIFT, SHIFT, SWAP, RIGHT, SHIFT, LEFT, RIGHT, RIGHT);
        // 2 waits for 1, and 1 for 4: so 3 and 2 are swapped with 4.
        sequence("A2B3C0D1;", SHIFT, SHIFT, SHIFT, SHIFT, SWAP, SWAP, RIGHT, SHIFT, LEFT, SHIFT, LEFT, RIGHT);
        new Script("38: bad indices").store("A0B1;").calls("transition(0, -1) = NONE; transition(0, 4) = NONE;"
            + "transition(0, 2147483647) = NONE; transition(0, -2147483648) = NONE; transition(1, 0) = BAD_INDEX;"
            + "transition(1, -1) = BAD_INDEX; transition(-1, 0) = BAD_INDEX; transitions(1) = BAD_INDEX;"
            + "transitions(-1) = BAD_INDEX");
    }

    private static void sequence(String text, int... due) {
        Script script = new Script("37, 38: transitions of " + text).store(text).calls("transitions(0) = " + due.length);
        for (int i = 0; i < due.length; i++) {
            script.calls("transition(0, " + i + ") = " + due[i]);
        }
        script.calls("transition(0, " + due.length + ") = NONE");
    }
}
