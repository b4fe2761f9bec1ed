/** The boundary cases of the promises 39 to 43: training, slots and the checksum. */
final class TrainingBoundaries {
    private TrainingBoundaries() {
    }

    static void run() {
        train();
        whatTrainingMeans();
        limits();
        trainAll();
        rounds();
        save();
        restore();
        checksum();
        checksumOfWeights();
    }

    private static void train() {
        new Script(Doc.says(39, "Trains a sentence")).store("A2B0;C2D0;").calls("train(1) = 1; tagWeight(3, 2) = 1; tagWeight(8, 2) = -1;"
            + "tagWeight(1, 0) = 0; distanceWeight(1, 1) = 1; distanceWeight(0, 1) = -1; save(0) = 4; annotatedHead(1, 1) = 2");
        // Then the distance 1 to the left is ahead, so that 230 is the best tree of the first sentence.
        Arguments.sentence(39, "train(?)", "train(3) = 1; bestHead(0, 1) = 2; bestHead(0, 2) = 3; train(0) = 3");
        String number = Doc.says(39, "the number of words whose head in the best tree was not that of the annotation");
        new Script(number + ", none").store("A0;B0C0D0E0F0G0;").calls("train(0) = 0; train(1) = 0; save(0) = 0");
        new Script(number + ", all").store("A2B3C4D5E6F0;").calls("setSingleRoot(true) = 0; train(0) = 6; train(0) = 0");
        // They were wrong before the training, which has made them right.
        new Script(number + ", one").store("A2B0;").calls("train(0) = 1; correct(0) = 2; train(0) = 0");
        Twins.refused(Doc.says(39, "BAD_INDEX"), "train(-1) = BAD_INDEX; train(4) = BAD_INDEX");
        String none = Doc.says(39, "NONE if there is no admissible tree (nothing changes then)");
        Twins.noTrace(none, Twins.Past.BARREN, "train(0) = NONE");
        new Script(none).store("A2B0;").calls("constrain(0, 0, 1, 2) = 0; constrain(0, 2, 1, 2) = 0; train(0) = NONE; save(0) = 0;"
            + "constrain(0, 0, 1, 0) = 2; train(0) = 1; save(0) = 4");
    }

    private static void whatTrainingMeans() {
        String right = Doc.says(39, "if it has a best tree, and this is not its annotation");
        new Script(right).store("A0B0;").calls("setTagWeight(8, 0, 3) = 0; train(0) = 0; tagWeight(8, 0) = 3; save(0) = 1");
        Twins.noTrace(right, Twins.Past.FULL, "train(2) = 0");
        // The annotation has the same score, but is not the best tree.
        new Script(right + ", equal scores").store("A0B1;").calls("bestScore(0) = 0; train(0) = 1; tagWeight(0, 1) = 1; tagWeight(8, 1) = -1");
        String step = Doc.says(39, "the tag weight and the distance weight of the annotated arc increase by 1, and then those of the arc of the"
            + " best tree decrease by 1");
        // Annotation 012, best tree 000: the arcs 1-2 and 2-3 rise, the arcs 0-2 and 0-3 fall.
        new Script(step).store("A0B1C2;").calls("train(0) = 2; tagWeight(0, 1) = 1; tagWeight(1, 2) = 1; distanceWeight(0, 1) = 2;"
            + "tagWeight(8, 1) = -1; tagWeight(8, 2) = -1; distanceWeight(0, 2) = -1; distanceWeight(0, 3) = -1; save(0) = 7");
        // The two arcs have the tags of A below A both, so that this weight is as before.
        new Script(step + ", one weight for both").store("A0A1A1;").calls("constrain(0, 0, 1, 1) = 0; constrain(0, 0, 2, 2) = 0;"
            + "constrain(0, 2, 3, 1) = 0; train(0) = 1; tagWeight(0, 0) = 0; distanceWeight(0, 2) = 1; distanceWeight(0, 1) = -1");
        // The best tree is that of before the first word was trained, also for the second one.
        new Script(step + ", one best tree").store("A2B3C0;").calls("train(0) = 2; tagWeight(1, 0) = 1; tagWeight(2, 1) = 1;"
            + "tagWeight(8, 0) = -1; tagWeight(8, 1) = -1; distanceWeight(1, 1) = 2; distanceWeight(0, 1) = -1; distanceWeight(0, 2) = -1");
    }

    private static void limits() {
        String limit = Doc.says(39, "no weight goes above 999 or below -999 (it stays there)");
        great(limit).calls("trainAll(1) = NONE; tagWeight(0, 0) = 999; distanceWeight(0, 1) = 999; tagWeight(8, 0) = -999;"
            + "distanceWeight(0, 2) = -999");
        small(limit).calls("trainAll(1) = NONE; tagWeight(0, 0) = -999; distanceWeight(0, 1) = -999; tagWeight(8, 0) = 999;"
            + "distanceWeight(0, 2) = 999");
        String within = Doc.says(39, "and then those of the arc of the best tree decrease by 1");
        // Annotation 011 and best tree 012: the weight of A below A rises, that is stays, and falls then.
        great(within + ", at 999").store("A0A1A1;").calls("constrain(1, 0, 1, 1) = 0; constrain(1, 0, 2, 2) = 0; constrain(1, 2, 3, 1) = 0;"
            + "train(1) = 1; tagWeight(0, 0) = 998; train(1) = 1; tagWeight(0, 0) = 998");
        small(within + ", at -999").store("A0A1A1;").calls("constrain(1, 0, 1, 1) = 0; constrain(1, 0, 2, 2) = 0; constrain(1, 2, 3, 1) = 0;"
            + "train(1) = 1; tagWeight(0, 0) = -999");
        String order = Doc.says(39, "in ascending order, the tag weight and the distance weight of the annotated arc");
        // Word 2 lets the weight of A below A rise, and word 3 lets it fall: annotation 010, best tree 001.
        String risesFirst = "constrain(1, 0, 1, 1) = 0; constrain(1, 0, 2, 1) = 0; constrain(1, 1, 3, 1) = 0; train(1) = 2;";
        great(order + ", at 999").store("A0A1A0;").calls(risesFirst + "tagWeight(0, 0) = 998");
        small(order + ", at -999").store("A0A1A0;").calls(risesFirst + "tagWeight(0, 0) = -999");
        // The other way round: annotation 001, best tree 010.
        String fallsFirst = "constrain(1, 0, 1, 1) = 0; constrain(1, 1, 2, 1) = 0; constrain(1, 0, 3, 1) = 0; train(1) = 2;";
        great(order + ", falling first, at 999").store("A0A0A1;").calls(fallsFirst + "tagWeight(0, 0) = 999");
        small(order + ", falling first, at -999").store("A0A0A1;").calls(fallsFirst + "tagWeight(0, 0) = -998");
        // The same for a distance: annotation 011, best tree 002; the distance 1 rises with word 2 and falls with word 3.
        String distance = "constrain(1, 0, 1, 1) = 0; constrain(1, 0, 2, 1) = 0; constrain(1, 2, 3, 1) = 0; train(1) = 2;";
        great(order + ", a distance").store("A0A1A1;").calls(distance + "distanceWeight(0, 1) = 998");
        small(order + ", a distance").store("A0A1A1;").calls(distance + "distanceWeight(0, 1) = -999");
    }

    /** The weights of A below A and of the distance 1 are 999, those of A below the root and of the distance 2 are -999. */
    private static Script great(String name) {
        return trained(name, "A0A1;", "constrain(0, 0, 1, 1) = 0; constrain(0, 0, 2, 1) = 0;", 99);
    }

    /** The other way round. */
    private static Script small(String name) {
        return trained(name, "A0A0;", "constrain(0, 1, 2, 1) = 0;", -99);
    }

    /** The second word is always wrong, so each round is a step. */
    private static Script trained(String name, String text, String calls, int from) {
        Script script = new Script(name).store(text).calls(calls + "setTagWeight(0, 0, " + from + ") = 0; setDistanceWeight(0, 1, " + from
            + ") = 0; setTagWeight(8, 0, " + -from + ") = 0; setDistanceWeight(0, 2, " + -from + ") = 0");
        for (int call = 0; call < 89; call++) {
            script.calls("trainAll(10) = NONE");
        }
        int limit = from > 0 ? 999 : -999;
        int before = from > 0 ? 998 : -998;
        return script.calls("trainAll(9) = NONE; tagWeight(0, 0) = " + before + "; distanceWeight(0, 2) = " + -before
            + "; trainAll(1) = NONE; tagWeight(0, 0) = " + limit + "; distanceWeight(0, 2) = " + -limit + "; trainAll(10) = NONE;"
            + "tagWeight(0, 0) = " + limit + "; distanceWeight(0, 2) = " + -limit);
    }

    private static void trainAll() {
        String all = Doc.says(40, "Trains all sentences, in the order of their numbers, round by round, until a round in which each sentence"
            + " without admissible trees is left out and all others had no wrong words, but not more rounds than given");
        // After the first sentence was trained the distance 1 is ahead, so that the second one is right at once.
        new Script(all + ": the order").store("A0B1;C0D1;").calls("trainAll(1) = NONE; tagWeight(0, 1) = 1; tagWeight(2, 3) = 0;"
            + "save(0) = 4; trainAll(10) = 0; save(0) = 4");
        new Script(all + ": the order the other way round").store("C0D1;A0B1;").calls("trainAll(1) = NONE; tagWeight(0, 1) = 0;"
            + "tagWeight(2, 3) = 1");
        new Script(all + ": no sentence").calls("trainAll(1) = 0; trainAll(10) = 0; save(0) = 0");
        new Script(all + ": four sentences").store("A2B0;A2B0;A2B0;C2D0;").calls("constrain(0, 0, 1, 1) = 0; constrain(1, 0, 1, 1) = 0;"
            + "constrain(2, 0, 1, 1) = 0; constrain(3, 0, 1, 1) = 0; trainAll(1) = NONE; tagWeight(1, 0) = 3; tagWeight(3, 2) = 1;"
            + "trainAll(10) = NONE; tagWeight(1, 0) = 33; tagWeight(3, 2) = 11");
        String leftOut = "constrain(0, 0, 1, 2) = 0; constrain(0, 0, 2, 2) = 0;";
        new Script(all + ": one is left out").store("A2B0;A0;").calls(leftOut + "trainAll(1) = 0; save(0) = 0");
        new Script(all + ": all are left out").store("A2B0;").calls(leftOut + "trainAll(1) = 0; trainAll(10) = 0; save(0) = 0");
        new Script(all + ": one is left out, the other one is wrong").store("A2B0;C2D0;").calls(leftOut + "trainAll(1) = NONE;"
            + "tagWeight(1, 0) = 0; tagWeight(3, 2) = 1; trainAll(1) = 0");
        // Not more rounds than given: the weight tells how many there were.
        new Script(all + ": as many as given").store("A2B0;").calls("constrain(0, 0, 1, 1) = 0; trainAll(1) = NONE; tagWeight(1, 0) = 1;"
            + "trainAll(2) = NONE; tagWeight(1, 0) = 3; trainAll(9) = NONE; tagWeight(1, 0) = 12; trainAll(10) = NONE;"
            + "tagWeight(1, 0) = 22");
    }

    /** Each round brings the annotation 4 nearer to the best tree, which is ahead by a bias; a draw is still wrong. */
    private static void rounds() {
        new Script(Doc.says(40, "rounds: the greatest number of rounds, 1 to 10")).store("A2B0;").calls("constrain(0, 0, 1, 1) = 0;"
            + "trainAll(1) = NONE; tagWeight(1, 0) = 1; trainAll(10) = NONE; tagWeight(1, 0) = 11").outside("trainAll(?)", "BAD_VALUE", 1, 10)
            .calls("tagWeight(1, 0) = 11");
        String number = Doc.says(40, "the number of rounds with a wrong word before the round without one");
        int[] ahead = {-1, 0, 3, 4, 7, 8, 31, 32, 35};
        int[] due = {0, 1, 1, 2, 2, 3, 8, 9, 9};
        for (int i = 0; i < ahead.length; i++) {
            new Script(number + ", " + due[i]).store("A0B1;").calls("setBias(0, 0, 2, " + ahead[i] + ") = 0; trainAll(10) = " + due[i]
                + "; tagWeight(0, 1) = " + due[i] + "; trainAll(10) = 0; trainAll(1) = 0; tagWeight(0, 1) = " + due[i]);
        }
        String none = Doc.says(40, "NONE if there was no round without one");
        new Script(none + ", ten").store("A0B1;").calls("setBias(0, 0, 2, 36) = 0; trainAll(10) = NONE; tagWeight(0, 1) = 10;"
            + "trainAll(1) = 0");
        // Nine rounds are wrong: nine are too few to come to the one without a wrong word.
        new Script(none + ", nine").store("A0B1;").calls("setBias(0, 0, 2, 32) = 0; trainAll(9) = NONE; tagWeight(0, 1) = 9;"
            + "trainAll(1) = 0; tagWeight(0, 1) = 9");
        new Script(none + ", one").store("A0B1;").calls("trainAll(1) = NONE; trainAll(1) = 0");
        Twins.refused(Doc.says(40, "BAD_VALUE"), "trainAll(0) = BAD_VALUE; trainAll(11) = BAD_VALUE; trainAll(-1) = BAD_VALUE");
    }

    private static void save() {
        String all = Doc.says(41, "Saves all tag weights and distance weights, in place of what the slot keeps");
        Script script = everyWeight(new Script(all)).calls("save(0) = 84; setTagWeight(0, 0, 0) = 1; setDistanceWeight(1, 6, 0) = 84;"
            + "save(1) = 82; restore(0) = 84; tagWeight(0, 0) = 1; tagWeight(8, 7) = 72; distanceWeight(0, 1) = 73; distanceWeight(1, 6) = 84;"
            + "setTagWeight(8, 7, 5) = 72; save(0) = 84; setTagWeight(8, 7, 6) = 5; restore(0) = 84; tagWeight(8, 7) = 5; restore(1) = 82;"
            + "tagWeight(0, 0) = 0; tagWeight(8, 7) = 72; distanceWeight(1, 6) = 0");
        script.calls("save(0) = 82; restore(0) = 82; tagWeight(8, 7) = 72");
        new Script(Doc.says(41, "slot: 0 or 1")).calls("setTagWeight(0, 0, 1) = 0; save(0) = 1; setTagWeight(0, 0, 2) = 1; save(1) = 1")
            .outside("save(?)", "BAD_INDEX", 0, 1).calls("restore(0) = 1; tagWeight(0, 0) = 1; restore(1) = 1; tagWeight(0, 0) = 2");
        new Script(Doc.says(41, "the number of weights that are not 0")).calls("save(0) = 0; setTagWeight(0, 0, 1) = 0; save(0) = 1;"
            + "setTagWeight(8, 7, -1) = 0; save(0) = 2; setDistanceWeight(0, 1, -99) = 0; save(0) = 3; setDistanceWeight(1, 6, 99) = 0;"
            + "save(0) = 4; setTagWeight(0, 0, 0) = 1; save(0) = 3; setTagWeight(8, 7, 2) = -1; save(0) = 3");
        Twins.refused(Doc.says(41, "BAD_INDEX"), "save(-1) = BAD_INDEX; save(2) = BAD_INDEX");
    }

    /** All 84 weights are different, from 1 to 84 in the order of the checksum. */
    private static Script everyWeight(Script script) {
        int next = 1;
        for (int headTag = 0; headTag <= 8; headTag++) {
            for (int wordTag = 0; wordTag <= 7; wordTag++) {
                script.calls("setTagWeight(" + headTag + "," + wordTag + "," + next++ + ") = 0");
            }
        }
        for (int direction = 0; direction <= 1; direction++) {
            for (int distance = 1; distance <= 6; distance++) {
                script.calls("setDistanceWeight(" + direction + "," + distance + "," + next++ + ") = 0");
            }
        }
        return script;
    }

    private static void restore() {
        Script script = everyWeight(new Script(Doc.says(42, "Makes all tag weights and distance weights as they were saved")));
        script.calls("save(1) = 84");
        for (int headTag = 0; headTag <= 8; headTag++) {
            script.calls("setTagWeight(" + headTag + ", 0, 0) = " + (8 * headTag + 1) + "; setTagWeight(" + headTag + ", 7, -99) = "
                + (8 * headTag + 8));
        }
        script.calls("setDistanceWeight(0, 1, 0) = 73; setDistanceWeight(1, 6, -99) = 84; restore(1) = 84; distanceWeight(0, 1) = 73;"
            + "distanceWeight(1, 6) = 84");
        for (int headTag = 0; headTag <= 8; headTag++) {
            script.calls("tagWeight(" + headTag + ", 0) = " + (8 * headTag + 1) + "; tagWeight(" + headTag + ", 7) = " + (8 * headTag + 8));
        }
        new Script(Doc.says(42, "The slot keeps them")).calls("setTagWeight(8, 7, 5) = 0; save(0) = 1; restore(0) = 1; restore(0) = 1;"
            + "setTagWeight(8, 7, 6) = 5; restore(0) = 1; tagWeight(8, 7) = 5; setTagWeight(8, 7, 0) = 5; restore(0) = 1; tagWeight(8, 7) = 5");
        new Script(Doc.says(42, "The slot keeps them") + ", through training").store("A2B0;").calls("save(0) = 0; train(0) = 1; restore(0) = 0;"
            + "tagWeight(1, 0) = 0; train(0) = 1; restore(0) = 0; tagWeight(1, 0) = 0; distanceWeight(1, 1) = 0");
        new Script(Doc.says(42, "slot: 0 or 1")).calls("setTagWeight(0, 0, 1) = 0; save(0) = 1; setTagWeight(0, 0, 2) = 1; save(1) = 1;"
            + "restore(0) = 1; tagWeight(0, 0) = 1; restore(1) = 1; tagWeight(0, 0) = 2").outside("restore(?)", "BAD_INDEX", 0, 1)
            .calls("tagWeight(0, 0) = 2");
        new Script(Doc.says(42, "the number of weights that are not 0 then")).calls("save(0) = 0; setTagWeight(0, 0, 1) = 0; save(1) = 1;"
            + "setTagWeight(1, 1, 1) = 0; restore(1) = 1; restore(0) = 0; restore(1) = 1");
        Twins.refused(Doc.says(42, "BAD_INDEX"), "restore(-1) = BAD_INDEX; restore(2) = BAD_INDEX");
        String none = Doc.says(42, "NONE if nothing has been saved in the slot (nothing changes then)");
        Twins.noTrace(none, Twins.Past.NEW, "restore(0) = NONE; restore(1) = NONE");
        Twins.noTrace(none, Twins.Past.SOME, "restore(1) = NONE");
        Twins.noTrace(none, Twins.Past.BARREN, "restore(0) = NONE; restore(1) = NONE");
        // Zeros that were saved are something; a slot whose saving was refused is empty.
        new Script(none).calls("setTagWeight(0, 0, 1) = 0; restore(0) = NONE; tagWeight(0, 0) = 1; setTagWeight(0, 0, 0) = 1; save(0) = 0;"
            + "setTagWeight(0, 0, 1) = 0; save(2) = BAD_INDEX; restore(1) = NONE; restore(0) = 0; tagWeight(0, 0) = 0");
    }

    private static void checksum() {
        new Script(Doc.says(43, "It starts with h = 13")).calls("checksum() = " + mix(weights(0), 0));
        String values = Doc.says(43, "for each sentence words(), for each word its tag, its annotated head and its head in the best tree (NONE"
            + " without one), bestScore(), treeCount(), weightSum(), crossings() and transitions()");
        new Script(values).store("H3B0C2;").calls("setBias(0, 0, 1, 4) = 0; setBias(0, 1, 3, 2) = 0; bestScore(0) = 6; checksum() = "
            + mix(weights(0), 1, 3, 7, 3, 0, 1, 0, 0, 2, 2, 1, 6, 16, 20240, 1, 8));
        int none = ArcFactoredParser.NONE;
        new Script(values + ", no tree").store("A2B0;").calls("constrain(0, 0, 1, 2) = 0; constrain(0, 0, 2, 2) = 0; checksum() = "
            + mix(weights(0), 1, 2, 0, 2, none, 1, 0, none, none, 0, 0, 0, 4));
        // Four sentences, the second of them with six words.
        new Script(values + ", four sentences").store("A0;A0A0A0A0A0A0;B0;C0;").calls("checksum() = " + mix(weights(0), 4,
            1, 0, 0, 0, 0, 1, 10, 0, 2,
            6, 0, 0, 0, 0, 0, 0, 0, 0, 0, 0, 0, 0, 0, 0, 0, 0, 0, 0, 0, 16807, 16807000000L, 0, 12,
            1, 1, 0, 0, 0, 1, 10, 0, 2,
            1, 2, 0, 0, 0, 1, 10, 0, 2));
        String sentences = Doc.says(43, "for each of the following values, in this order, h becomes 31 * h + value (as longs, with overflow):"
            + " sentences()");
        new Script(sentences).store("A0;").calls("checksum() = " + mix(weights(0), 1, 1, 0, 0, 0, 0, 1, 10, 0, 2)
            + "; remove(0) = 0; checksum() = " + mix(weights(0), 0));
        String computes = Doc.says(43, "Computes a checksum");
        for (Twins.Past past : Twins.Past.values()) {
            ArcFactoredParser parser = Twins.prepare(computes, past).parser();
            Script.check(computes + ": the same twice, " + past, parser.checksum() == parser.checksum());
        }
        // The text, the slots, the biases of arcs outside all best trees and the shift of a sum of 0 are not among the values.
        new Script(Doc.says(43, "the checksum")).store("A0;").calls("setShift(-50) = 10; checksum() = "
            + mix(weights(0), 1, 1, 0, 0, 0, 0, 1, 0, 0, 2)).type("B0;").calls("save(0) = 0; save(1) = 0; setShift(-51) = -50; checksum() = "
            + mix(weights(0), 1, 1, 0, 0, 0, 0, 1, 0, 0, 2));
    }

    private static void checksumOfWeights() {
        everyWeight(new Script(Doc.says(43, "all tag weights, ordered by the head tag and then by the word tag")))
            .calls("checksum() = " + mix(weights(84), 0));
        new Script(Doc.says(43, "all distance weights, ordered by the direction and then by the distance")).calls(
            "setDistanceWeight(0, 6, 99) = 0; checksum() = " + mix(oneWeight(78, 99), 0) + "; setDistanceWeight(0, 6, 0) = 99;"
            + "setDistanceWeight(1, 1, -99) = 0; checksum() = " + mix(oneWeight(79, -99), 0) + "; setDistanceWeight(1, 1, 0) = -99;"
            + "setDistanceWeight(1, 6, 1) = 0; checksum() = " + mix(oneWeight(84, 1), 0) + "; setDistanceWeight(1, 6, 0) = 1;"
            + "setDistanceWeight(0, 1, 1) = 0; checksum() = " + mix(oneWeight(73, 1), 0));
    }

    /** The weights in their order: the first ones are 1, 2 and so on up to a last one, and the others are 0. */
    private static long[] weights(int last) {
        long[] weights = new long[84];
        for (int i = 0; i < last; i++) {
            weights[i] = i + 1;
        }
        return weights;
    }

    private static long[] oneWeight(int place, int weight) {
        long[] weights = new long[84];
        weights[place - 1] = weight;
        return weights;
    }

    private static long mix(long[] weights, long... before) {
        long h = 13;
        for (long value : before) {
            h = 31 * h + value;
        }
        for (long weight : weights) {
            h = 31 * h + weight;
        }
        return h;
    }
}
