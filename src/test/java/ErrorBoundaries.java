/** What the document says of errors, for all calls that report one. */
final class ErrorBoundaries {
    /** Refused by each object, whatever lies behind it. */
    private static final String REFUSED = "append(128) = BAD_VALUE; remove(4) = BAD_INDEX; words(4) = BAD_INDEX; tag(0, 0) = BAD_INDEX;"
        + "annotatedHead(0, 0) = BAD_INDEX; annotate(0, 1, 1) = BAD_INDEX; acceptBest(4) = BAD_INDEX; setTagWeight(9, 0, 1) = BAD_INDEX;"
        + "setTagWeight(0, 0, 100) = BAD_VALUE; setDistanceWeight(0, 7, 1) = BAD_INDEX; setDistanceWeight(0, 1, 100) = BAD_VALUE;"
        + "setBias(0, 1, 1, 1) = BAD_INDEX; constrain(0, 1, 1, 1) = BAD_INDEX; setShift(101) = BAD_VALUE; tagWeight(0, 8) = BAD_INDEX;"
        + "distanceWeight(2, 1) = BAD_INDEX; score(0, 0, 0) = BAD_INDEX; bestScore(4) = BAD_INDEX; bestHead(0, 0) = BAD_INDEX;"
        + "rankedScore(4, 0) = BAD_INDEX; rankedHead(0, 0, 0) = BAD_INDEX; regret(0, 1, 1) = BAD_INDEX; margin(4) = BAD_INDEX;"
        + "correct(4) = BAD_INDEX; treeCount(4) = BAD_INDEX; weightSum(4) = BAD_INDEX; chance(0, 1, 1, true) = BAD_INDEX;"
        + "riskHead(0, 0) = BAD_INDEX; crossings(4) = BAD_INDEX; depth(0, 0) = BAD_INDEX; projectiveOrder(0, -1) = BAD_INDEX;"
        + "transitions(4) = BAD_INDEX; transition(4, 0) = BAD_INDEX; train(4) = BAD_INDEX; trainAll(0) = BAD_VALUE; save(2) = BAD_INDEX;"
        + "restore(2) = BAD_INDEX";

    private ErrorBoundaries() {
    }

    static void run() {
        constants();
        order();
        noneIsNoError();
        nothingChanges();
    }

    private static void constants() {
        String name = Doc.says(2, "Errors are reported by negative constants.");
        int[] constants = {ArcFactoredParser.BAD_INDEX, ArcFactoredParser.BAD_VALUE, ArcFactoredParser.FULL, ArcFactoredParser.NONE,
            ArcFactoredParser.FAULT};
        for (int i = 0; i < constants.length; i++) {
            Script.check(name + " " + constants[i], constants[i] == -1000001 - i);
        }
        // As a long it is the same number.
        Script.check(name, new ArcFactoredParser().weightSum(0) == -1000001L && new ArcFactoredParser().chance(0, 0, 1, true) == -1000001L);
    }

    private static void order() {
        String order = Doc.says(2, "Where several can apply, the order of the @return line is the order of the checks.");
        new Script(order + " 2").type(Twins.FULL_TEXT).calls("append(128) = BAD_VALUE; append(-1) = BAD_VALUE; append(65) = FULL");
        new Script(order + " 5").store("A0;A0;A0;A0;").type("A0;A").calls("read() = FAULT; append(48) = 5; append(59) = 6; read() = FULL");
        new Script(order + " 11").store("A0B1;").calls("annotate(0, 1, 1) = BAD_INDEX; annotate(1, 1, 2) = BAD_INDEX;"
            + "annotate(0, 1, 2) = BAD_VALUE");
        new Script(order + " 13").calls("setTagWeight(9, 0, 100) = BAD_INDEX; setTagWeight(0, 8, 100) = BAD_INDEX;"
            + "setTagWeight(8, 7, 100) = BAD_VALUE");
        new Script(order + " 14").calls("setDistanceWeight(2, 1, -100) = BAD_INDEX; setDistanceWeight(0, 0, -100) = BAD_INDEX;"
            + "setDistanceWeight(1, 6, -100) = BAD_VALUE");
        new Script(order + " 15").store("A0B1;").calls("setBias(1, 0, 1, 100) = BAD_INDEX; setBias(0, 3, 1, 100) = BAD_INDEX;"
            + "setBias(0, 1, 1, 100) = BAD_INDEX; setBias(0, 0, 3, 100) = BAD_INDEX; setBias(0, 2, 1, 100) = BAD_VALUE");
        new Script(order + " 16").store("A0B1;").calls("constrain(1, 0, 1, 3) = BAD_INDEX; constrain(0, 3, 1, 3) = BAD_INDEX;"
            + "constrain(0, 1, 1, 3) = BAD_INDEX; constrain(0, 0, 3, 3) = BAD_INDEX; constrain(0, 2, 1, 3) = BAD_VALUE");
        new Script(order + " 25").store("A0;").calls("rankedScore(1, 6) = BAD_INDEX; rankedScore(0, 6) = BAD_VALUE; rankedScore(0, 5) = NONE");
        new Script(order + " 26").store("A0;").calls("rankedHead(1, 6, 1) = BAD_INDEX; rankedHead(0, 6, 2) = BAD_INDEX;"
            + "rankedHead(0, 6, 0) = BAD_INDEX; rankedHead(0, 6, 1) = BAD_VALUE; rankedHead(0, 5, 1) = NONE");
    }

    /** A sentence without admissible trees, and calls that would be answered with NONE if their arguments were good. */
    private static void noneIsNoError() {
        String none = Doc.says(40, "NONE is not an error and is returned only if no error applies.");
        new Script(none).store("A0B1;").calls("constrain(0, 0, 1, 2) = 0; constrain(0, 0, 2, 2) = 0; acceptBest(0) = NONE;"
            + "acceptBest(1) = BAD_INDEX; bestScore(0) = NONE; bestScore(1) = BAD_INDEX; bestHead(0, 1) = NONE; bestHead(0, 3) = BAD_INDEX;"
            + "rankedScore(0, 0) = NONE; rankedScore(0, 6) = BAD_VALUE; rankedScore(1, 0) = BAD_INDEX; rankedHead(0, 0, 1) = NONE;"
            + "rankedHead(0, 6, 1) = BAD_VALUE; rankedHead(0, 0, 3) = BAD_INDEX; regret(0, 0, 1) = NONE; regret(0, 1, 1) = BAD_INDEX;"
            + "margin(0) = NONE; margin(1) = BAD_INDEX; correct(0) = NONE; correct(1) = BAD_INDEX; chance(0, 0, 1, true) = NONE;"
            + "chance(0, 1, 1, true) = BAD_INDEX; riskHead(0, 1) = NONE; riskHead(0, 3) = BAD_INDEX; transition(0, -1) = NONE;"
            + "transition(1, -1) = BAD_INDEX; train(0) = NONE; train(1) = BAD_INDEX; restore(0) = NONE; restore(2) = BAD_INDEX;"
            + "faultPosition() = 0");
        // There is no round without a wrong word, with any number of rounds; the number is looked at first.
        new Script(none + " 40").store("A2B0;").calls("constrain(0, 0, 1, 1) = 0; trainAll(10) = NONE; trainAll(11) = BAD_VALUE;"
            + "trainAll(0) = BAD_VALUE; tagWeight(1, 0) = 10");
    }

    private static void nothingChanges() {
        String nothing = Doc.says(2, "A call that reports an error changes nothing.");
        Twins.refused(nothing, REFUSED);
        Twins.noTrace(nothing, Twins.Past.NEW, "read() = FAULT");
        Twins.noTrace(nothing, Twins.Past.SOME, "read() = FAULT; annotate(0, 2, 1) = BAD_VALUE; setBias(0, 0, 1, 100) = BAD_VALUE;"
            + "constrain(0, 0, 1, 3) = BAD_VALUE; rankedScore(0, 6) = BAD_VALUE; rankedHead(0, 6, 1) = BAD_VALUE");
        Twins.noTrace(nothing, Twins.Past.FULL, "read() = FULL; append(65) = FULL");
    }
}
