/** The boundary cases of the promises 13 to 22: weights, biases, constraints and settings. */
final class ScoreBoundaries {
    private ScoreBoundaries() {
    }

    static void run() {
        setTagWeight();
        setDistanceWeight();
        setBias();
        constrain();
        manyRequired();
        switches();
        setShift();
        weights();
        score();
    }

    private static void setTagWeight() {
        new Script(Doc.says(13, "Sets a tag weight")).calls("setTagWeight(0, 7, 5) = 0; tagWeight(0, 7) = 5; tagWeight(7, 0) = 0;"
            + "tagWeight(1, 0) = 0; tagWeight(0, 6) = 0; distanceWeight(0, 1) = 0; save(0) = 1");
        new Script(Doc.says(13, "headTag: 0 to 8")).calls("setTagWeight(0, 0, 1) = 0; setTagWeight(8, 0, 2) = 0;"
            + "tagWeight(0, 0) = 1; tagWeight(8, 0) = 2").outside("setTagWeight(?, 0, 3)", "BAD_INDEX", 0, 8).calls("save(0) = 2");
        new Script(Doc.says(13, "wordTag: 0 to 7")).calls("setTagWeight(8, 0, 1) = 0; setTagWeight(8, 7, 2) = 0; tagWeight(8, 0) = 1;"
            + "tagWeight(8, 7) = 2; setTagWeight(0, 8, 3) = BAD_INDEX; setTagWeight(8, 8, 3) = BAD_INDEX")
            .outside("setTagWeight(8, ?, 3)", "BAD_INDEX", 0, 7).calls("save(0) = 2");
        new Script(Doc.says(13, "weight: the new weight, -99 to 99")).calls("setTagWeight(3, 3, 99) = 0; setTagWeight(3, 3, -99) = 99;"
            + "tagWeight(3, 3) = -99").outside("setTagWeight(3, 3, ?)", "BAD_VALUE", -99, 99).calls("setTagWeight(3, 3, 999) = BAD_VALUE;"
            + "setTagWeight(3, 3, -999) = BAD_VALUE; tagWeight(3, 3) = -99; setTagWeight(3, 3, 0) = -99; save(0) = 0");
        new Script(Doc.says(13, "the previous weight")).calls("setTagWeight(8, 7, -1) = 0; setTagWeight(8, 7, -1) = -1;"
            + "setTagWeight(8, 7, 100) = BAD_VALUE; setTagWeight(8, 7, 1) = -1; setTagWeight(8, 7, 0) = 1");
        // What training has made of it lies beyond what can be set.
        Script trained = beyond(Doc.says(13, "the previous weight") + ", beyond 99");
        trained.calls("setTagWeight(1, 0, 99) = 109; setTagWeight(8, 0, -99) = -109; setTagWeight(8, 0, 1) = -99");
        Twins.refused(Doc.says(13, "BAD_INDEX"), "setTagWeight(-1, 0, 1) = BAD_INDEX; setTagWeight(9, 0, 1) = BAD_INDEX;"
            + "setTagWeight(0, -1, 1) = BAD_INDEX; setTagWeight(0, 8, 1) = BAD_INDEX; setTagWeight(9, 0, 100) = BAD_INDEX;"
            + "setTagWeight(0, 8, -100) = BAD_INDEX");
        Twins.refused(Doc.says(13, "BAD_VALUE"), "setTagWeight(0, 0, 100) = BAD_VALUE; setTagWeight(8, 7, -100) = BAD_VALUE");
    }

    /** The weights of the arcs from 2 and from the root to word 1 were 99 and -99, and were trained ten times. */
    private static Script beyond(String name) {
        return new Script(name).store("A2B0;").calls("constrain(0, 0, 1, 1) = 0; setTagWeight(1, 0, 99) = 0;"
            + "setTagWeight(8, 0, -99) = 0; setDistanceWeight(1, 1, 99) = 0; setDistanceWeight(0, 1, -99) = 0; trainAll(10) = NONE");
    }

    private static void setDistanceWeight() {
        new Script(Doc.says(14, "Sets a distance weight")).calls("setDistanceWeight(0, 2, 5) = 0; distanceWeight(0, 2) = 5;"
            + "distanceWeight(1, 2) = 0; distanceWeight(0, 1) = 0; distanceWeight(0, 3) = 0; save(0) = 1");
        new Script(Doc.says(14, "direction: 0 or 1")).calls("setDistanceWeight(0, 1, 1) = 0; setDistanceWeight(1, 1, 2) = 0;"
            + "distanceWeight(0, 1) = 1; distanceWeight(1, 1) = 2").outside("setDistanceWeight(?, 1, 3)", "BAD_INDEX", 0, 1)
            .calls("save(0) = 2");
        new Script(Doc.says(14, "distance: 1 to 6")).calls("setDistanceWeight(1, 1, 1) = 0; setDistanceWeight(1, 6, 2) = 0;"
            + "distanceWeight(1, 1) = 1; distanceWeight(1, 6) = 2; setDistanceWeight(0, 0, 3) = BAD_INDEX;"
            + "setDistanceWeight(0, 7, 3) = BAD_INDEX").outside("setDistanceWeight(1, ?, 3)", "BAD_INDEX", 1, 6).calls("save(0) = 2");
        new Script(Doc.says(14, "weight: the new weight, -99 to 99")).calls("setDistanceWeight(1, 3, 99) = 0;"
            + "setDistanceWeight(1, 3, -99) = 99; distanceWeight(1, 3) = -99").outside("setDistanceWeight(1, 3, ?)", "BAD_VALUE", -99, 99)
            .calls("setDistanceWeight(1, 3, 999) = BAD_VALUE; setDistanceWeight(1, 3, -999) = BAD_VALUE; distanceWeight(1, 3) = -99");
        new Script(Doc.says(14, "the previous weight")).calls("setDistanceWeight(1, 6, -1) = 0; setDistanceWeight(1, 6, -1) = -1;"
            + "setDistanceWeight(1, 6, 100) = BAD_VALUE; setDistanceWeight(1, 6, 1) = -1; setDistanceWeight(1, 6, 0) = 1");
        beyond(Doc.says(14, "the previous weight") + ", beyond 99").calls("setDistanceWeight(1, 1, 99) = 109;"
            + "setDistanceWeight(0, 1, -99) = -109; setDistanceWeight(0, 1, 1) = -99");
        Twins.refused(Doc.says(14, "BAD_INDEX if direction or distance is out of range"), "setDistanceWeight(-1, 1, 1) = BAD_INDEX;"
            + "setDistanceWeight(2, 1, 1) = BAD_INDEX; setDistanceWeight(0, 0, 1) = BAD_INDEX; setDistanceWeight(0, 7, 1) = BAD_INDEX;"
            + "setDistanceWeight(2, 1, 100) = BAD_INDEX; setDistanceWeight(0, 7, -100) = BAD_INDEX");
        Twins.refused(Doc.says(14, "BAD_VALUE"), "setDistanceWeight(0, 1, 100) = BAD_VALUE; setDistanceWeight(1, 6, -100) = BAD_VALUE");
    }

    private static void setBias() {
        new Script(Doc.says(15, "Sets the bias of an arc")).store("A0B0;C0D0;").calls("setBias(0, 1, 2, 5) = 0; score(0, 1, 2) = 5;"
            + "score(0, 2, 1) = 0; score(0, 0, 2) = 0; score(1, 1, 2) = 0; bestScore(0) = 5");
        Arguments.sentence(15, "setBias(?, 0, 1, 4)", "setBias(0, 0, 1, 4) = 0; setBias(3, 0, 1, 5) = 0; score(0, 0, 1) = 4;"
            + "score(3, 0, 1) = 5");
        Arguments.head(15, "setBias(S, ?, 2, 4)", "setBias(0, 0, 2, 4) = 0; setBias(0, 1, 2, 5) = 0; setBias(0, 3, 2, 6) = 0;"
            + "score(0, 0, 2) = 4; score(0, 1, 2) = 5; score(0, 3, 2) = 6; setBias(2, 6, 2, 7) = 0; score(2, 6, 2) = 7");
        Arguments.arcWord(15, "setBias(S, H, ?, 4)", "setBias(0, 2, 1, 4) = 0; setBias(0, 2, 3, 5) = 0; score(0, 2, 1) = 4;"
            + "score(0, 2, 3) = 5; setBias(1, 0, 1, 6) = 0; setBias(2, 0, 6, 7) = 0; score(1, 0, 1) = 6; score(2, 0, 6) = 7");
        new Script(Doc.says(15, "bias: the new bias, -99 to 99")).store("A0;").calls("setBias(0, 0, 1, 99) = 0; score(0, 0, 1) = 99;"
            + "setBias(0, 0, 1, -99) = 99; score(0, 0, 1) = -99").outside("setBias(0, 0, 1, ?)", "BAD_VALUE", -99, 99)
            .calls("score(0, 0, 1) = -99");
        new Script(Doc.says(15, "the previous bias")).store("A0;").calls("setBias(0, 0, 1, 1) = 0; setBias(0, 0, 1, 1) = 1;"
            + "setBias(0, 0, 1, 100) = BAD_VALUE; setTagWeight(8, 0, 50) = 0; setBias(0, 0, 1, -1) = 1; setBias(0, 0, 1, 0) = -1");
        Twins.refused(Doc.says(15, "BAD_INDEX"), "setBias(-1, 0, 1, 1) = BAD_INDEX; setBias(4, 0, 1, 1) = BAD_INDEX;"
            + "setBias(0, 7, 1, 1) = BAD_INDEX; setBias(0, -1, 1, 1) = BAD_INDEX; setBias(0, 1, 1, 1) = BAD_INDEX;"
            + "setBias(0, 1, 0, 1) = BAD_INDEX; setBias(0, 0, 7, 1) = BAD_INDEX; setBias(0, 1, 1, 100) = BAD_INDEX;"
            + "setBias(4, 0, 1, -100) = BAD_INDEX; setBias(0, 0, 0, 1) = BAD_INDEX");
        String value = Doc.says(15, "BAD_VALUE");
        for (Twins.Past past : new Twins.Past[] {Twins.Past.SOME, Twins.Past.FULL, Twins.Past.BARREN}) {
            Twins.noTrace(value, past, "setBias(0, 0, 1, 100) = BAD_VALUE; setBias(0, 0, 1, -100) = BAD_VALUE");
        }
    }

    private static void constrain() {
        new Script(Doc.says(16, "Sets the constraint of an arc")).store("A0B0;C0D0;").calls("constrain(0, 1, 2, 1) = 0;"
            + "treeCount(0) = 1; treeCount(1) = 3; constrain(0, 2, 1, 2) = 0; treeCount(0) = 1; constrain(0, 1, 2, 2) = 1;"
            + "treeCount(0) = 1; constrain(0, 1, 2, 0) = 2; treeCount(0) = 2");
        Arguments.sentence(16, "constrain(?, 0, 1, 2)", "constrain(0, 0, 1, 2) = 0; constrain(3, 0, 1, 2) = 0; treeCount(0) = 8;"
            + "treeCount(3) = 1");
        Arguments.head(16, "constrain(S, ?, 2, 1)", "constrain(0, 0, 2, 1) = 0; bestHead(0, 2) = 0; constrain(0, 0, 2, 0) = 1;"
            + "constrain(0, 3, 2, 1) = 0; bestHead(0, 2) = 3; constrain(2, 6, 2, 1) = 0; bestHead(2, 2) = 6");
        Arguments.arcWord(16, "constrain(S, H, ?, 1)", "constrain(0, 2, 1, 1) = 0; bestHead(0, 1) = 2; constrain(0, 2, 3, 1) = 0;"
            + "bestHead(0, 3) = 2; constrain(1, 0, 1, 2) = 0; treeCount(1) = 0; constrain(2, 0, 6, 2) = 0; bestHead(2, 6) = 1");
        new Script(Doc.says(16, "constraint: the new constraint, 0 to 2")).store("A0B0;").calls("constrain(0, 0, 1, 0) = 0;"
            + "constrain(0, 0, 1, 1) = 0; constrain(0, 0, 1, 2) = 1").outside("constrain(0, 0, 1, ?)", "BAD_VALUE", 0, 2)
            .calls("constrain(0, 0, 1, 0) = 2");
        new Script(Doc.says(16, "the previous constraint")).store("A0B0;").calls("constrain(0, 2, 1, 2) = 0; constrain(0, 2, 1, 2) = 2;"
            + "constrain(0, 2, 1, 3) = BAD_VALUE; constrain(0, 2, 1, 1) = 2; constrain(0, 2, 1, 0) = 1; constrain(0, 2, 1, 0) = 0");
        Twins.refused(Doc.says(16, "BAD_INDEX"), "constrain(-1, 0, 1, 1) = BAD_INDEX; constrain(4, 0, 1, 1) = BAD_INDEX;"
            + "constrain(0, 7, 1, 1) = BAD_INDEX; constrain(0, -1, 1, 1) = BAD_INDEX; constrain(0, 1, 1, 1) = BAD_INDEX;"
            + "constrain(0, 1, 0, 1) = BAD_INDEX; constrain(0, 0, 7, 1) = BAD_INDEX; constrain(0, 1, 1, 3) = BAD_INDEX;"
            + "constrain(4, 0, 1, -1) = BAD_INDEX; constrain(0, 0, 0, 1) = BAD_INDEX");
        String value = Doc.says(16, "BAD_VALUE");
        for (Twins.Past past : new Twins.Past[] {Twins.Past.SOME, Twins.Past.FULL, Twins.Past.BARREN}) {
            Twins.noTrace(value, past, "constrain(0, 0, 1, 3) = BAD_VALUE; constrain(0, 0, 1, -1) = BAD_VALUE");
        }
    }

    private static void manyRequired() {
        String possible = Doc.says(16, "Several required arcs of one word, or required arcs that form a cycle, are possible");
        new Script(possible).store("A0B0C0;").calls("constrain(0, 0, 1, 1) = 0; constrain(0, 2, 1, 1) = 0; constrain(0, 3, 1, 1) = 0;"
            + "constrain(0, 1, 2, 1) = 0; constrain(0, 1, 3, 1) = 0; constrain(0, 0, 1, 1) = 1; constrain(0, 3, 1, 1) = 1;"
            + "constrain(0, 1, 3, 1) = 1");
        String none = Doc.says(16, "there is no admissible tree then");
        String nothing = "treeCount(0) = 0; weightSum(0) = 0; bestScore(0) = NONE; bestHead(0, 1) = NONE; rankedScore(0, 0) = NONE;"
            + "rankedHead(0, 0, 1) = NONE; regret(0, 0, 1) = NONE; margin(0) = NONE; correct(0) = NONE; chance(0, 0, 1, true) = NONE;"
            + "riskHead(0, 1) = NONE; acceptBest(0) = NONE; train(0) = NONE; trainAll(1) = 0";
        new Script(none + ", two heads").store("A0B0C0;").calls("constrain(0, 0, 2, 1) = 0; constrain(0, 3, 2, 1) = 0;" + nothing);
        new Script(none + ", all heads").store("A0B0C0;").calls("constrain(0, 0, 2, 1) = 0; constrain(0, 1, 2, 1) = 0;"
            + "constrain(0, 3, 2, 1) = 0;" + nothing);
        new Script(none + ", a cycle of two").store("A0B0C0;").calls("constrain(0, 3, 2, 1) = 0; constrain(0, 2, 3, 1) = 0;" + nothing);
        new Script(none + ", a cycle of all").store("A0B0C0D0E0F0;").calls("constrain(0, 2, 1, 1) = 0; constrain(0, 3, 2, 1) = 0;"
            + "constrain(0, 4, 3, 1) = 0; constrain(0, 5, 4, 1) = 0; constrain(0, 6, 5, 1) = 0; treeCount(0) = 1;"
            + "constrain(0, 1, 6, 1) = 0;" + nothing);
        // One head less that is required, and there are trees again.
        new Script(none + ", and again").store("A0B0C0;").calls("constrain(0, 0, 2, 1) = 0; constrain(0, 3, 2, 1) = 0;" + nothing
            + "; constrain(0, 0, 2, 0) = 1; treeCount(0) = 4; bestHead(0, 2) = 3");
    }

    private static void switches() {
        new Script(Doc.says(17, "There are two settings, single root and projective, both off at first.")).store("A0B0C0;")
            .calls("treeCount(0) = 16; setSingleRoot(true) = 0; setProjective(true) = 0");
        new Script(Doc.says(17, "Switches single root on or off")).store("A0B0C0;").calls("setSingleRoot(true) = 0; treeCount(0) = 9;"
            + "setProjective(false) = 0; setSingleRoot(false) = 1; treeCount(0) = 16");
        new Script(Doc.says(17, "on: whether it is on from now on")).store("A0B0;").calls("setSingleRoot(false) = 0; treeCount(0) = 3;"
            + "setSingleRoot(true) = 0; treeCount(0) = 2; setSingleRoot(true) = 1; treeCount(0) = 2").store("C0D0;")
            .calls("treeCount(1) = 2; setSingleRoot(false) = 1; treeCount(1) = 3");
        new Script(Doc.says(17, "1 if it was on, 0 if not")).calls("setSingleRoot(false) = 0; setSingleRoot(true) = 0;"
            + "setSingleRoot(true) = 1; setProjective(true) = 0; setSingleRoot(false) = 1; setSingleRoot(false) = 0");
        new Script(Doc.says(18, "Switches projective on or off")).store("A0B0C0;").calls("setProjective(true) = 0; treeCount(0) = 12;"
            + "setSingleRoot(false) = 0; setProjective(false) = 1; treeCount(0) = 16");
        new Script(Doc.says(18, "on: whether it is on from now on")).store("A0B0C0;").calls("setProjective(false) = 0; treeCount(0) = 16;"
            + "setProjective(true) = 0; treeCount(0) = 12; setProjective(true) = 1; treeCount(0) = 12").store("C0D0E0;")
            .calls("treeCount(1) = 12; setProjective(false) = 1; treeCount(1) = 16");
        new Script(Doc.says(18, "1 if it was on, 0 if not")).calls("setProjective(false) = 0; setProjective(true) = 0;"
            + "setProjective(true) = 1; setSingleRoot(true) = 0; setProjective(false) = 1; setProjective(false) = 0");
    }

    private static void setShift() {
        new Script(Doc.says(19, "Sets the shift")).store("A0;").calls("weightSum(0) = 10; setShift(11) = 10; weightSum(0) = 11;"
            + "score(0, 0, 1) = 0");
        new Script(Doc.says(19, "shift: the new shift, -100 to 100")).calls("setShift(100) = 10; setShift(-100) = 100;"
            + "setShift(-99) = -100; setShift(99) = -99").outside("setShift(?)", "BAD_VALUE", -100, 100).calls("setShift(0) = 99; setShift(0) = 0");
        new Script(Doc.says(19, "(a setting from -100 to 100, at first 10)")).store("A0;").calls("setShift(-100) = 10;"
            + "setTagWeight(8, 0, 99) = 0; setDistanceWeight(0, 1, 2) = 0; weightSum(0) = 1; setShift(100) = -100;"
            + "setTagWeight(8, 0, -99) = 99; weightSum(0) = 3");
        new Script(Doc.says(19, "the previous shift")).calls("setShift(10) = 10; setShift(-1) = 10; setShift(101) = BAD_VALUE;"
            + "setShift(1) = -1; setShift(1) = 1");
        Twins.refused(Doc.says(19, "BAD_VALUE"), "setShift(101) = BAD_VALUE; setShift(-101) = BAD_VALUE");
    }

    private static void weights() {
        new Script(Doc.says(20, "headTag: 0 to 8")).calls("setTagWeight(0, 3, 4) = 0; setTagWeight(8, 3, 5) = 0; tagWeight(0, 3) = 4;"
            + "tagWeight(8, 3) = 5").outside("tagWeight(?, 3)", "BAD_INDEX", 0, 8);
        new Script(Doc.says(20, "wordTag: 0 to 7")).calls("setTagWeight(3, 0, 4) = 0; setTagWeight(3, 7, 5) = 0; tagWeight(3, 0) = 4;"
            + "tagWeight(3, 7) = 5; tagWeight(8, 8) = BAD_INDEX").outside("tagWeight(3, ?)", "BAD_INDEX", 0, 7);
        Script tags = new Script(Doc.says(20, "the tag weight"));
        for (int headTag = 0; headTag <= 8; headTag++) {
            for (int wordTag = 0; wordTag <= 7; wordTag++) {
                tags.calls("setTagWeight(" + headTag + "," + wordTag + "," + (headTag * 8 + wordTag + 1) + ") = 0");
            }
        }
        for (int headTag = 0; headTag <= 8; headTag++) {
            for (int wordTag = 0; wordTag <= 7; wordTag++) {
                tags.calls("tagWeight(" + headTag + "," + wordTag + ") = " + (headTag * 8 + wordTag + 1));
            }
        }
        Twins.refused(Doc.says(20, "BAD_INDEX"), "tagWeight(-1, 0) = BAD_INDEX; tagWeight(9, 0) = BAD_INDEX;"
            + "tagWeight(0, -1) = BAD_INDEX; tagWeight(0, 8) = BAD_INDEX");
        new Script(Doc.says(21, "direction: 0 or 1")).calls("setDistanceWeight(0, 3, 4) = 0; setDistanceWeight(1, 3, 5) = 0;"
            + "distanceWeight(0, 3) = 4; distanceWeight(1, 3) = 5").outside("distanceWeight(?, 3)", "BAD_INDEX", 0, 1);
        new Script(Doc.says(21, "distance: 1 to 6")).calls("setDistanceWeight(1, 1, 4) = 0; setDistanceWeight(1, 6, 5) = 0;"
            + "distanceWeight(1, 1) = 4; distanceWeight(1, 6) = 5").outside("distanceWeight(1, ?)", "BAD_INDEX", 1, 6)
            .outside("distanceWeight(0, ?)", "BAD_INDEX", 1, 6);
        Script distances = new Script(Doc.says(21, "the distance weight"));
        for (int distance = 1; distance <= 6; distance++) {
            distances.calls("setDistanceWeight(0," + distance + "," + distance + ") = 0; setDistanceWeight(1," + distance + ",-"
                + distance + ") = 0");
        }
        for (int distance = 1; distance <= 6; distance++) {
            distances.calls("distanceWeight(0," + distance + ") = " + distance + "; distanceWeight(1," + distance + ") = -" + distance);
        }
        Twins.refused(Doc.says(21, "BAD_INDEX"), "distanceWeight(-1, 1) = BAD_INDEX; distanceWeight(2, 1) = BAD_INDEX;"
            + "distanceWeight(0, 0) = BAD_INDEX; distanceWeight(0, 7) = BAD_INDEX");
    }

    private static void score() {
        Arguments.sentence(22, "score(?, 0, 1)", "setTagWeight(8, 0, 5) = 0; setTagWeight(8, 7, 6) = 0; score(0, 0, 1) = 5;"
            + "score(3, 0, 1) = 6");
        Arguments.head(22, "score(S, ?, 2)", "setBias(0, 0, 2, 1) = 0; setBias(0, 3, 2, 2) = 0; score(0, 0, 2) = 1; score(0, 1, 2) = 0;"
            + "score(0, 3, 2) = 2; setBias(2, 6, 2, 3) = 0; score(2, 6, 2) = 3");
        Arguments.arcWord(22, "score(S, H, ?)", "setBias(0, 2, 1, 1) = 0; setBias(0, 2, 3, 2) = 0; score(0, 2, 1) = 1; score(0, 2, 3) = 2;"
            + "setBias(2, 0, 6, 3) = 0; score(2, 0, 6) = 3; score(1, 0, 1) = 0");
        new Script(Doc.says(22, "the score of the arc")).store("A0B0;").calls("score(0, 1, 2) = 0; setTagWeight(0, 1, 99) = 0;"
            + "setDistanceWeight(0, 1, 99) = 0; setBias(0, 1, 2, 99) = 0; score(0, 1, 2) = 297; setTagWeight(0, 1, -99) = 99;"
            + "setDistanceWeight(0, 1, -99) = 99; setBias(0, 1, 2, -99) = 99; score(0, 1, 2) = -297; score(0, 2, 1) = 0;"
            + "constrain(0, 1, 2, 2) = 0; score(0, 1, 2) = -297; setShift(100) = 10; score(0, 1, 2) = -297");
        Twins.refused(Doc.says(22, "BAD_INDEX"), "score(-1, 0, 1) = BAD_INDEX; score(4, 0, 1) = BAD_INDEX; score(0, 7, 1) = BAD_INDEX;"
            + "score(0, 1, 1) = BAD_INDEX; score(0, 1, 0) = BAD_INDEX; score(0, 0, 7) = BAD_INDEX; score(0, 0, 0) = BAD_INDEX");
        new Script(Doc.says(22, "The score of an arc is its tag weight plus its distance weight plus its bias.")).store("A0B0;").calls(
            "setTagWeight(1, 0, 1) = 0; score(0, 2, 1) = 1; setDistanceWeight(1, 1, 10) = 0; score(0, 2, 1) = 11;"
            + "setBias(0, 2, 1, -20) = 0; score(0, 2, 1) = -9; setDistanceWeight(0, 1, 50) = 0; score(0, 2, 1) = -9; score(0, 0, 1) = 50");
        // Each distance of the longest sentence: to the right of the root up to 6, to the left up to 5.
        Script far = new Script(Doc.says(22, "distance weights for each direction (0 if the head has the lower number, 1 if it has the"
            + " higher number) and distance (1 to 6, the absolute difference of the numbers)")).store("A0B0C0D0E0F0;");
        for (int distance = 1; distance <= 6; distance++) {
            far.calls("setDistanceWeight(0," + distance + "," + distance + ") = 0; setDistanceWeight(1," + distance + ",-" + distance
                + ") = 0; score(0, 0, " + distance + ") = " + distance);
        }
        far.calls("score(0, 6, 1) = -5; score(0, 1, 6) = 5; score(0, 2, 1) = -1; score(0, 1, 2) = 1; score(0, 6, 5) = -1;"
            + "score(0, 5, 6) = 1; score(0, 4, 2) = -2; score(0, 2, 4) = 2");
        limits();
        new Script(Doc.says(15, "Each arc of a sentence has a bias from -99 to 99, at first 0, and a constraint: 0 free (at first),"
            + " 1 required, 2 forbidden.")).store("A0B0;").calls("setBias(0, 2, 1, -99) = 0; constrain(0, 2, 1, 0) = 0; treeCount(0) = 3;"
            + "constrain(0, 2, 1, 1) = 0; treeCount(0) = 1; bestScore(0) = -99; constrain(0, 2, 1, 2) = 1; treeCount(0) = 2;"
            + "bestScore(0) = 0; setBias(0, 2, 1, 99) = -99; constrain(0, 2, 1, 0) = 2; bestScore(0) = 99");
    }

    /** Trained from 99 on: after 90 times ten rounds they are at 999, and stay there. */
    private static void limits() {
        Script script = new Script(Doc.says(20, "all are 0 at first and always between -999 and 999")).store("A2B0;").calls(
            "tagWeight(1, 0) = 0; distanceWeight(1, 1) = 0; constrain(0, 0, 1, 1) = 0; setTagWeight(1, 0, 99) = 0;"
            + "setTagWeight(8, 0, -99) = 0; setDistanceWeight(1, 1, 99) = 0; setDistanceWeight(0, 1, -99) = 0");
        for (int calls = 0; calls < 90; calls++) {
            script.calls("trainAll(10) = NONE");
        }
        String limits = "tagWeight(1, 0) = 999; tagWeight(8, 0) = -999; distanceWeight(1, 1) = 999; distanceWeight(0, 1) = -999;"
            + "score(0, 2, 1) = 1998; score(0, 0, 1) = -1998";
        script.calls(limits + "; trainAll(1) = NONE;" + limits + "; save(0) = 4; setBias(0, 2, 1, 99) = 0; score(0, 2, 1) = 2097;"
            + "setTagWeight(1, 0, 0) = 999; restore(0) = 4; tagWeight(1, 0) = 999; train(0) = 1; tagWeight(1, 0) = 999");
    }
}
