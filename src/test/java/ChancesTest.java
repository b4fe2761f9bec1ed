/** Promises 31 to 33: sums of weights, chances and the risk tree. */
public final class ChancesTest {
    public static void main(String[] args) {
        weightSum();
        chance();
        riskHead();
        Script.end();
    }

    private static void weightSum() {
        new Script("31: weightSum").store("A0B1;").calls("weightSum(0) = 300; setShift(0) = 10; weightSum(0) = 0;"
            + "setBias(0, 0, 1, 2) = 0; setBias(0, 0, 2, 3) = 0; setBias(0, 1, 2, 5) = 0; setBias(0, 2, 1, 7) = 0;"
            + "weightSum(0) = 37; setSingleRoot(true) = 0; weightSum(0) = 31; constrain(0, 1, 2, 2) = 0; weightSum(0) = 21;"
            + "setSingleRoot(false) = 1; weightSum(0) = 27; constrain(0, 2, 1, 1) = 0; weightSum(0) = 21;"
            + "weightSum(1) = BAD_INDEX; weightSum(-1) = BAD_INDEX; weightSum(4) = BAD_INDEX");
        // A potential is at least 0 and at most 20.
        new Script("31: bounds of potentials").store("A0;").calls("setBias(0, 0, 1, 9) = 0; weightSum(0) = 19;"
            + "setBias(0, 0, 1, 10) = 9; weightSum(0) = 20; setBias(0, 0, 1, 11) = 10; weightSum(0) = 20;"
            + "setBias(0, 0, 1, 99) = 11; weightSum(0) = 20; setBias(0, 0, 1, -9) = 99; weightSum(0) = 1;"
            + "setBias(0, 0, 1, -10) = -9; weightSum(0) = 0; setBias(0, 0, 1, -11) = -10; weightSum(0) = 0;"
            + "setBias(0, 0, 1, -99) = -11; weightSum(0) = 0");
        new Script("31: no admissible tree").store("A0;").calls("constrain(0, 0, 1, 2) = 0; weightSum(0) = 0");
        // 20 to the power of 6, times the number of trees.
        new Script("31: the greatest sum").store("A0A0A0A0A0A0;").calls("setShift(20) = 10; weightSum(0) = 1075648000000;"
            + "setProjective(true) = 0; weightSum(0) = 91392000000; setSingleRoot(true) = 0; weightSum(0) = 46592000000;"
            + "setProjective(false) = 1; weightSum(0) = 497664000000");
    }

    private static void chance() {
        String four = "setShift(0) = 10; setBias(0, 0, 1, 2) = 0; setBias(0, 0, 2, 3) = 0; setBias(0, 1, 2, 5) = 0;"
            + "setBias(0, 2, 1, 8) = 0;";
        // The weights are 6 (00), 10 (01) and 24 (20).
        new Script("32: chance").store("A0B1;").calls(four + "chance(0, 0, 1, false) = 2; chance(0, 0, 1, true) = 5;"
            + "chance(0, 0, 2, false) = 3; chance(0, 0, 2, true) = 4; chance(0, 1, 2, false) = 1; chance(0, 1, 2, true) = 4;"
            + "chance(0, 2, 1, false) = 3; chance(0, 2, 1, true) = 5; constrain(0, 1, 2, 2) = 0; chance(0, 1, 2, false) = 0;"
            + "chance(0, 1, 2, true) = 1; chance(0, 0, 2, false) = 1; chance(0, 0, 2, true) = 1; chance(0, 0, 1, false) = 1;"
            + "chance(0, 0, 1, true) = 5");
        new Script("32: bad indices").store("A0B1;").calls("chance(0, 1, 1, true) = BAD_INDEX; chance(0, 3, 1, true) = BAD_INDEX;"
            + "chance(0, -1, 1, false) = BAD_INDEX; chance(0, 1, 0, false) = BAD_INDEX; chance(0, 0, 3, true) = BAD_INDEX;"
            + "chance(1, 0, 1, true) = BAD_INDEX; chance(-1, 0, 1, false) = BAD_INDEX; setShift(-100) = 10;"
            + "chance(0, 0, 1, true) = NONE; chance(0, 0, 1, false) = NONE; chance(0, 1, 1, true) = BAD_INDEX;"
            + "chance(1, 0, 1, false) = BAD_INDEX");
        new Script("32: no admissible tree").store("A0B1;").calls("constrain(0, 0, 1, 2) = 0; constrain(0, 0, 2, 2) = 0;"
            + "chance(0, 0, 1, true) = NONE; chance(0, 1, 2, false) = NONE");
        // An arc with the potential 0 has the chance 0.
        new Script("32: potential 0").store("A0B1;").calls("setBias(0, 1, 2, -50) = 0; chance(0, 1, 2, false) = 0;"
            + "chance(0, 1, 2, true) = 1; chance(0, 0, 2, false) = 1; chance(0, 0, 2, true) = 1; chance(0, 2, 1, false) = 1;"
            + "chance(0, 2, 1, true) = 2");
        // All weights are equal: of 12 trees without crossings, 7 have the arc from the root to word 1, 7 that to
        // word 3, and 4 that to word 2, as many as have each other arc to word 2.
        new Script("32: projective").store("A0B0C0;").calls("setProjective(true) = 0; chance(0, 0, 1, false) = 7;"
            + "chance(0, 0, 1, true) = 12; chance(0, 0, 3, false) = 7; chance(0, 0, 3, true) = 12; chance(0, 0, 2, false) = 1;"
            + "chance(0, 0, 2, true) = 3; riskHead(0, 1) = 0; riskHead(0, 2) = 0; riskHead(0, 3) = 0");
        new Script("32: large numbers").store("A0A0A0A0A0A0;").calls("setShift(19) = 10; setBias(0, 0, 1, 1) = 0;"
            + "chance(0, 0, 1, false) = 8; chance(0, 0, 1, true) = 27; chance(0, 2, 1, false) = 19;"
            + "chance(0, 2, 1, true) = 135");
    }

    private static void riskHead() {
        // The chances are 2/5 and 3/5 for the heads 0 and 2 of word 1, 3/4 and 1/4 for 0 and 1 of word 2.
        new Script("33: riskHead").store("A0B1;").calls("riskHead(0, 1) = 0; riskHead(0, 2) = 0; setShift(0) = 10;"
            + "riskHead(0, 1) = NONE; setBias(0, 0, 1, 2) = 0; setBias(0, 0, 2, 3) = 0; setBias(0, 1, 2, 5) = 0;"
            + "setBias(0, 2, 1, 8) = 0; riskHead(0, 1) = 2; riskHead(0, 2) = 0; riskHead(0, 0) = BAD_INDEX;"
            + "riskHead(0, 3) = BAD_INDEX; riskHead(0, -1) = BAD_INDEX; riskHead(1, 1) = BAD_INDEX; riskHead(-1, 1) = BAD_INDEX;"
            + "setShift(-100) = 0; riskHead(0, 1) = NONE; riskHead(0, 3) = BAD_INDEX; riskHead(1, 1) = BAD_INDEX");
        // At the end the best tree is 01, with 15 of 31; but trees with an arc from the root to word 2 have 16 of 31.
        new Script("33: not the best tree").store("A0B0;").calls("setShift(0) = 10; setBias(0, 0, 1, 3) = 0; setBias(0, 0, 2, 2) = 0;"
            + "setBias(0, 1, 2, 3) = 0; setBias(0, 2, 1, 5) = 0; bestHead(0, 1) = 2; setBias(0, 1, 2, 5) = 3; bestHead(0, 1) = 0;"
            + "bestHead(0, 2) = 1; riskHead(0, 1) = 0; riskHead(0, 2) = 0");
        new Script("33: constraints and settings").store("A0B0C0;").calls("constrain(0, 0, 1, 2) = 0; riskHead(0, 1) = 2;"
            + "riskHead(0, 2) = 0; setSingleRoot(true) = 0; constrain(0, 3, 2, 1) = 0; riskHead(0, 3) = 0; riskHead(0, 2) = 3;"
            + "riskHead(0, 1) = 2");
        new Script("33: no admissible tree").store("A0;").calls("constrain(0, 0, 1, 2) = 0; riskHead(0, 1) = NONE");
    }
}
