/** Promises 39 to 43: training, slots and the checksum. */
public final class TrainingTest {
    public static void main(String[] args) {
        train();
        limits();
        trainAll();
        slots();
        checksum();
        Script.end();
    }

    private static void train() {
        // Annotation 2, 0; best tree 0, 0: word 1 alone is wrong.
        new Script("39: train").store("A2B0;").calls("train(0) = 1; tagWeight(1, 0) = 1; tagWeight(8, 0) = -1;"
            + "distanceWeight(1, 1) = 1; distanceWeight(0, 1) = -1; tagWeight(8, 1) = 0; distanceWeight(0, 2) = 0;"
            + "save(0) = 4; bestHead(0, 1) = 2; train(0) = 0; save(0) = 4; tagWeight(1, 0) = 1; annotatedHead(0, 1) = 2");
        // Annotation 0, 1, 2; best tree 0, 0, 0.
        new Script("39: two wrong words").store("A0B1C2;").calls("train(0) = 2; tagWeight(0, 1) = 1; tagWeight(8, 1) = -1;"
            + "tagWeight(1, 2) = 1; tagWeight(8, 2) = -1; distanceWeight(0, 1) = 2; distanceWeight(0, 2) = -1;"
            + "distanceWeight(0, 3) = -1; train(0) = 0");
        new Script("39: no best tree").store("A2B0;").calls("constrain(0, 0, 2, 2) = 0; constrain(0, 0, 1, 2) = 0;"
            + "train(0) = NONE; save(0) = 0; train(1) = BAD_INDEX; train(-1) = BAD_INDEX");
        // The best tree is admissible, the annotation is not: it is trained all the same.
        new Script("39: annotation not admissible").store("A2B0;").calls("constrain(0, 2, 1, 2) = 0; train(0) = 1;"
            + "tagWeight(1, 0) = 1; tagWeight(8, 0) = -1; train(0) = 1; tagWeight(1, 0) = 2");
    }

    private static void limits() {
        // The wrong arc is required, so its weights fall and those of the annotation rise at each call.
        ArcFactoredParser parser = new ArcFactoredParser();
        for (char letter : "A2B0;".toCharArray()) {
            parser.append(letter);
        }
        parser.read();
        parser.constrain(0, 0, 1, 1);
        parser.setTagWeight(1, 0, 99);
        parser.setTagWeight(8, 0, -99);
        for (int round = 1; round <= 110; round++) {
            parser.trainAll(10);
        }
        Script.check("39: a tag weight stays at 999", parser.tagWeight(1, 0) == 999);
        Script.check("39: a tag weight stays at -999", parser.tagWeight(8, 0) == -999);
        Script.check("39: a distance weight stays at 999", parser.distanceWeight(1, 1) == 999);
        Script.check("39: a distance weight stays at -999", parser.distanceWeight(0, 1) == -999);
        Script.check("22: the score of weights at their limit", parser.score(0, 0, 1) == -1998);
        Script.check("13: the previous weight is beyond what can be set", parser.setTagWeight(1, 0, 5) == 999);
        Script.check("39: training goes on from what was set", parser.train(0) == 1 && parser.tagWeight(1, 0) == 6);
    }

    private static void trainAll() {
        new Script("40: trainAll").store("A0B1;B2A0;").calls("trainAll(0) = BAD_VALUE; trainAll(11) = BAD_VALUE;"
            + "trainAll(-1) = BAD_VALUE; trainAll(2147483647) = BAD_VALUE; save(0) = 0; trainAll(1) = NONE; save(0) = 6;"
            + "trainAll(1) = 0; trainAll(10) = 0");
        new Script("40: rounds before the one without a wrong word").store("A0B1;B2A0;").calls("trainAll(2) = 1; correct(0) = 2;"
            + "correct(1) = 2; tagWeight(0, 1) = 2");
        new Script("40: no sentences").calls("trainAll(1) = 0; trainAll(10) = 0; trainAll(11) = BAD_VALUE");
        new Script("40: left out").store("A0B1;A2B0;").calls("constrain(1, 0, 1, 1) = 0; constrain(1, 2, 1, 1) = 0;"
            + "trainAll(10) = 1; correct(1) = NONE; correct(0) = 2; tagWeight(0, 1) = 1; tagWeight(1, 0) = 0");
        new Script("40: all left out").store("A0B1;").calls("constrain(0, 0, 1, 2) = 0; constrain(0, 2, 1, 2) = 0; trainAll(3) = 0");
        // A required arc that is not the annotation's: there is always a wrong word.
        new Script("40: never right").store("A2B0;").calls("constrain(0, 0, 1, 1) = 0; trainAll(10) = NONE; tagWeight(1, 0) = 10;"
            + "tagWeight(8, 0) = -10; trainAll(3) = NONE; tagWeight(1, 0) = 13");
        // The first sentence is right at once, the second one is not: the round has a wrong word.
        new Script("40: one of two").store("A0;B2C0;").calls("trainAll(1) = NONE; trainAll(1) = 0");
        new Script("40: the other of two").store("B2C0;A0;").calls("trainAll(1) = NONE; trainAll(1) = 0");
    }

    private static void slots() {
        new Script("41: save").calls("save(0) = 0; setTagWeight(0, 0, 1) = 0; setTagWeight(8, 7, -1) = 0;"
            + "setDistanceWeight(0, 1, 2) = 0; setDistanceWeight(1, 6, 2) = 0; save(1) = 4; save(2) = BAD_INDEX;"
            + "save(-1) = BAD_INDEX; save(2147483647) = BAD_INDEX; setTagWeight(0, 0, 0) = 1; save(1) = 3; restore(1) = 3;"
            + "tagWeight(0, 0) = 0; restore(0) = 0; tagWeight(8, 7) = 0; distanceWeight(1, 6) = 0");
        new Script("42: restore").calls("restore(0) = NONE; restore(1) = NONE; restore(2) = BAD_INDEX; restore(-1) = BAD_INDEX;"
            + "setTagWeight(3, 4, 5) = 0; setDistanceWeight(1, 2, 6) = 0; restore(0) = NONE; tagWeight(3, 4) = 5; save(0) = 2;"
            + "setTagWeight(3, 4, 7) = 5; setTagWeight(0, 0, 1) = 0; setDistanceWeight(1, 2, 0) = 6; restore(1) = NONE;"
            + "tagWeight(3, 4) = 7; restore(0) = 2; tagWeight(3, 4) = 5; tagWeight(0, 0) = 0; distanceWeight(1, 2) = 6;"
            + "setTagWeight(3, 4, 9) = 5; restore(0) = 2; tagWeight(3, 4) = 5; restore(-2147483648) = BAD_INDEX");
        // Biases, constraints, settings and annotations are not the slots'.
        new Script("42: the rest stays").store("A0B1;").calls("save(0) = 0; setBias(0, 0, 1, 3) = 0; constrain(0, 0, 2, 2) = 0;"
            + "setShift(5) = 10; setSingleRoot(true) = 0; annotate(0, 2, 0) = 1; restore(0) = 0; score(0, 0, 1) = 3;"
            + "constrain(0, 0, 2, 2) = 2; setShift(5) = 5; setSingleRoot(true) = 1; annotatedHead(0, 2) = 0");
        // A saved set of zeros is something that was saved.
        new Script("42: zeros").calls("save(1) = 0; setTagWeight(1, 1, 1) = 0; restore(0) = NONE; restore(1) = 0; tagWeight(1, 1) = 0");
    }

    private static void checksum() {
        same("43: a new object", new ArcFactoredParser(), 0);
        ArcFactoredParser parser = new ArcFactoredParser();
        for (char letter : "A3B0C2D1;H0;B2C0;".toCharArray()) {
            parser.append(letter);
        }
        parser.read();
        same("43: three sentences", parser, 3);
        parser.setTagWeight(8, 1, 5);
        parser.setTagWeight(0, 7, -6);
        parser.setDistanceWeight(0, 6, 7);
        parser.setDistanceWeight(1, 1, 8);
        parser.setBias(0, 4, 2, 9);
        parser.setShift(3);
        same("43: with weights", parser, 3);
        parser.setProjective(true);
        parser.setSingleRoot(true);
        same("43: with settings", parser, 3);
        parser.constrain(0, 0, 1, 1);
        parser.constrain(0, 2, 1, 1);
        same("43: a sentence without admissible trees", parser, 3);
        parser.remove(0);
        parser.train(1);
        same("43: after training", parser, 2);
    }

    /** Computes the checksum from the answers of the other calls. */
    private static void same(String what, ArcFactoredParser parser, int sentences) {
        long h = 31 * 13 + sentences;
        for (int s = 0; s < sentences; s++) {
            h = 31 * h + parser.words(s);
            for (int word = 1; word <= parser.words(s); word++) {
                h = 31 * h + parser.tag(s, word);
                h = 31 * h + parser.annotatedHead(s, word);
                h = 31 * h + parser.bestHead(s, word);
            }
            h = 31 * h + parser.bestScore(s);
            h = 31 * h + parser.treeCount(s);
            h = 31 * h + parser.weightSum(s);
            h = 31 * h + parser.crossings(s);
            h = 31 * h + parser.transitions(s);
        }
        for (int headTag = 0; headTag <= 8; headTag++) {
            for (int wordTag = 0; wordTag <= 7; wordTag++) {
                h = 31 * h + parser.tagWeight(headTag, wordTag);
            }
        }
        for (int direction = 0; direction <= 1; direction++) {
            for (int distance = 1; distance <= 6; distance++) {
                h = 31 * h + parser.distanceWeight(direction, distance);
            }
        }
        Script.check(what + ": checksum() is " + h, parser.checksum() == h && parser.checksum() == h);
    }
}
