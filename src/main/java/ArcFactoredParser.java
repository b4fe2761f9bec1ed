/** An arc-factored dependency parser; README.md tells how it is used. */
public final class ArcFactoredParser {
    /** There is no such sentence, word, arc, tag, slot or index. */
    public static final int BAD_INDEX = -1000001;
    /** Another argument is out of range. */
    public static final int BAD_VALUE = -1000002;
    /** There is no room. */
    public static final int FULL = -1000003;
    /** There is no such thing; not an error. */
    public static final int NONE = -1000004;
    /** The text has a fault. */
    public static final int FAULT = -1000005;

    private static final int MAX_SENTENCES = 4;
    private static final int MAX_WORDS = 6;
    /** The root and the words of the longest sentence. */
    private static final int NODES = MAX_WORDS + 1;
    private static final int TAGS = 8;
    private static final int ROOT_TAG = 8;
    private static final int TEXT_LIMIT = 100;
    private static final int LAST_LETTER = 127;
    private static final int SLOTS = 2;
    private static final int RANKS = 6;
    private static final int MAX_ROUNDS = 10;
    private static final int FREE = 0;
    private static final int REQUIRED = 1;
    private static final int FORBIDDEN = 2;
    /** The bound of the weights and biases that are set; training goes further. */
    private static final int SET_LIMIT = 99;
    private static final int WEIGHT_LIMIT = 999;
    private static final int SHIFT_LIMIT = 100;
    private static final int FIRST_SHIFT = 10;
    private static final int MAX_POTENTIAL = 20;
    /** More than a Euclidean algorithm on two longs ever takes. */
    private static final int GCD_STEPS = 128;

    private final Text text;
    private final Sentence[] stored;
    private int storedCount;
    private final Weights weights;
    private final Weights[] slots;
    private final boolean[] slotUsed;
    private final Settings settings;
    private final TreeSearch search;
    private final TreeSums sums;
    private final TransitionRun transitionRun;

    public ArcFactoredParser() {
        text = new Text();
        // Sentences at and behind storedCount are always blank, ready to be read into.
        stored = new Sentence[MAX_SENTENCES];
        for (int i = 0; i < MAX_SENTENCES; i++) {
            stored[i] = new Sentence();
        }
        storedCount = 0;
        weights = new Weights();
        slots = new Weights[SLOTS];
        for (int i = 0; i < SLOTS; i++) {
            slots[i] = new Weights();
        }
        slotUsed = new boolean[SLOTS];
        settings = new Settings();
        search = new TreeSearch(settings);
        sums = new TreeSums(settings);
        transitionRun = new TransitionRun();
    }

    // ---- sentences and text

    public int append(int letter) {
        if (letter < 0 || letter > LAST_LETTER) {
            return BAD_VALUE;
        }
        return text.add(letter) ? text.length : FULL;
    }

    public int clearText() {
        int before = text.length;
        text.length = 0;
        return before;
    }

    public int faultPosition() {
        return text.findFault();
    }

    public int read() {
        if (text.findFault() != NONE) {
            return FAULT;
        }
        if (storedCount + text.countSentences() > MAX_SENTENCES) {
            return FULL;
        }
        for (int i = 0; i < text.length && storedCount < MAX_SENTENCES; i++) {
            int letter = text.letters[i];
            if (letter == Text.END) {
                storedCount++;
            } else if (i > 0 && Text.isDigit(letter)) {
                stored[storedCount].addWord(text.letters[i - 1] - Text.FIRST_TAG, letter - Text.FIRST_DIGIT);
            }
        }
        return storedCount;
    }

    public int remove(int sentence) {
        Sentence removed = find(sentence);
        if (removed == null) {
            return BAD_INDEX;
        }
        storedCount--;
        for (int i = sentence; i < storedCount; i++) {
            stored[i] = stored[i + 1];
        }
        removed.blank();
        stored[storedCount] = removed;
        return storedCount;
    }

    public int sentences() {
        return storedCount;
    }

    public int words(int sentence) {
        Sentence s = find(sentence);
        return s == null ? BAD_INDEX : s.size;
    }

    public int tag(int sentence, int word) {
        Sentence s = find(sentence);
        return s == null || !s.hasWord(word) ? BAD_INDEX : s.tags[word];
    }

    public int annotatedHead(int sentence, int word) {
        Sentence s = find(sentence);
        return s == null || !s.hasWord(word) ? BAD_INDEX : s.heads[word];
    }

    public int annotate(int sentence, int word, int head) {
        Sentence s = find(sentence);
        if (s == null || !s.hasArc(head, word)) {
            return BAD_INDEX;
        }
        int before = s.heads[word];
        s.heads[word] = head;
        if (!formTree(s.heads, s.size)) {
            s.heads[word] = before;
            return BAD_VALUE;
        }
        return before;
    }

    public int acceptBest(int sentence) {
        Sentence s = find(sentence);
        if (s == null) {
            return BAD_INDEX;
        }
        rankTrees(s, 1);
        if (search.found == 0) {
            return NONE;
        }
        int changed = s.size - countAgreeing(s);
        for (int word = 1; word <= s.size; word++) {
            s.heads[word] = search.headAt(0, word);
        }
        return changed;
    }

    // ---- scores and settings

    public int setTagWeight(int headTag, int wordTag, int weight) {
        if (!isTagPair(headTag, wordTag)) {
            return BAD_INDEX;
        }
        if (!isWithin(weight, SET_LIMIT)) {
            return BAD_VALUE;
        }
        int before = weights.byTags[headTag][wordTag];
        weights.byTags[headTag][wordTag] = weight;
        return before;
    }

    public int setDistanceWeight(int direction, int distance, int weight) {
        if (!isDistance(direction, distance)) {
            return BAD_INDEX;
        }
        if (!isWithin(weight, SET_LIMIT)) {
            return BAD_VALUE;
        }
        int before = weights.byDistance[direction][distance];
        weights.byDistance[direction][distance] = weight;
        return before;
    }

    public int setBias(int sentence, int head, int word, int bias) {
        Sentence s = find(sentence);
        if (s == null || !s.hasArc(head, word)) {
            return BAD_INDEX;
        }
        if (!isWithin(bias, SET_LIMIT)) {
            return BAD_VALUE;
        }
        int before = s.biases[head][word];
        s.biases[head][word] = bias;
        return before;
    }

    public int constrain(int sentence, int head, int word, int constraint) {
        Sentence s = find(sentence);
        if (s == null || !s.hasArc(head, word)) {
            return BAD_INDEX;
        }
        if (constraint < FREE || constraint > FORBIDDEN) {
            return BAD_VALUE;
        }
        int before = s.constraints[head][word];
        s.constraints[head][word] = constraint;
        return before;
    }

    public int setSingleRoot(boolean on) {
        int before = settings.singleRoot ? 1 : 0;
        settings.singleRoot = on;
        return before;
    }

    public int setProjective(boolean on) {
        int before = settings.projective ? 1 : 0;
        settings.projective = on;
        return before;
    }

    public int setShift(int shift) {
        if (!isWithin(shift, SHIFT_LIMIT)) {
            return BAD_VALUE;
        }
        int before = settings.shift;
        settings.shift = shift;
        return before;
    }

    public int tagWeight(int headTag, int wordTag) {
        return isTagPair(headTag, wordTag) ? weights.byTags[headTag][wordTag] : BAD_INDEX;
    }

    public int distanceWeight(int direction, int distance) {
        return isDistance(direction, distance) ? weights.byDistance[direction][distance] : BAD_INDEX;
    }

    public int score(int sentence, int head, int word) {
        Sentence s = find(sentence);
        return s == null || !s.hasArc(head, word) ? BAD_INDEX : arcScore(s, head, word);
    }

    // ---- best trees and the ranking

    public int bestScore(int sentence) {
        Sentence s = find(sentence);
        if (s == null) {
            return BAD_INDEX;
        }
        rankTrees(s, 1);
        return search.found == 0 ? NONE : search.scoreAt(0);
    }

    public int bestHead(int sentence, int word) {
        Sentence s = find(sentence);
        if (s == null || !s.hasWord(word)) {
            return BAD_INDEX;
        }
        rankTrees(s, 1);
        return search.found == 0 ? NONE : search.headAt(0, word);
    }

    public int rankedScore(int sentence, int rank) {
        Sentence s = find(sentence);
        if (s == null) {
            return BAD_INDEX;
        }
        if (rank < 0 || rank >= RANKS) {
            return BAD_VALUE;
        }
        rankTrees(s, rank + 1);
        return rank < search.found ? search.scoreAt(rank) : NONE;
    }

    public int rankedHead(int sentence, int rank, int word) {
        Sentence s = find(sentence);
        if (s == null || !s.hasWord(word)) {
            return BAD_INDEX;
        }
        if (rank < 0 || rank >= RANKS) {
            return BAD_VALUE;
        }
        rankTrees(s, rank + 1);
        return rank < search.found ? search.headAt(rank, word) : NONE;
    }

    public int regret(int sentence, int head, int word) {
        Sentence s = find(sentence);
        if (s == null || !s.hasArc(head, word)) {
            return BAD_INDEX;
        }
        rankTrees(s, 1);
        if (search.found == 0) {
            return NONE;
        }
        int best = search.scoreAt(0);
        search.keepOnly(head, word);
        search.seek(1);
        return search.found == 0 ? NONE : best - search.scoreAt(0);
    }

    public int margin(int sentence) {
        Sentence s = find(sentence);
        if (s == null) {
            return BAD_INDEX;
        }
        rankTrees(s, 2);
        boolean annotationIsBest = search.found > 0 && countAgreeing(s) == s.size;
        int rival = annotationIsBest ? 1 : 0;
        return rival < search.found ? annotationScore(s) - search.scoreAt(rival) : NONE;
    }

    public int correct(int sentence) {
        Sentence s = find(sentence);
        if (s == null) {
            return BAD_INDEX;
        }
        rankTrees(s, 1);
        return search.found == 0 ? NONE : countAgreeing(s);
    }

    public int treeCount(int sentence) {
        Sentence s = find(sentence);
        return s == null ? BAD_INDEX : countTrees(s);
    }

    // ---- chances

    public long weightSum(int sentence) {
        Sentence s = find(sentence);
        return s == null ? BAD_INDEX : sumWeights(s);
    }

    public long chance(int sentence, int head, int word, boolean denominator) {
        Sentence s = find(sentence);
        if (s == null || !s.hasArc(head, word)) {
            return BAD_INDEX;
        }
        long all = sumWeights(s);
        if (all <= 0) {
            return NONE;
        }
        sums.spread();
        long part = sums.arcSum(head, word);
        long divisor = greatestCommonDivisor(part, all);
        if (divisor <= 0) {
            return NONE;
        }
        return denominator ? all / divisor : part / divisor;
    }

    public int riskHead(int sentence, int word) {
        Sentence s = find(sentence);
        if (s == null || !s.hasWord(word)) {
            return BAD_INDEX;
        }
        if (sumWeights(s) <= 0) {
            return NONE;
        }
        sums.spread();
        offerArcs(s, true);
        search.seek(1);
        return search.found == 0 ? NONE : search.headAt(0, word);
    }

    // ---- annotations as trees

    public int crossings(int sentence) {
        Sentence s = find(sentence);
        return s == null ? BAD_INDEX : countCrossings(s);
    }

    public int depth(int sentence, int word) {
        Sentence s = find(sentence);
        return s == null || !s.hasWord(word) ? BAD_INDEX : countStepsToRoot(s.heads, s.size, word);
    }

    public int projectiveOrder(int sentence, int index) {
        Sentence s = find(sentence);
        if (s == null || index < 0 || index >= s.size) {
            return BAD_INDEX;
        }
        transitionRun.arrange(s);
        // The root is the first one of the order, and is not counted.
        return transitionRun.order[index + 1];
    }

    public int transitions(int sentence) {
        Sentence s = find(sentence);
        return s == null ? BAD_INDEX : countTransitions(s);
    }

    public int transition(int sentence, int index) {
        Sentence s = find(sentence);
        if (s == null) {
            return BAD_INDEX;
        }
        return index < 0 || index >= countTransitions(s) ? NONE : transitionRun.sequence[index];
    }

    // ---- training, slots, checksum

    public int train(int sentence) {
        Sentence s = find(sentence);
        return s == null ? BAD_INDEX : learn(s);
    }

    public int trainAll(int rounds) {
        if (rounds < 1 || rounds > MAX_ROUNDS) {
            return BAD_VALUE;
        }
        for (int round = 0; round < rounds; round++) {
            boolean wrong = false;
            for (int i = 0; i < storedCount; i++) {
                // A sentence without admissible trees answers NONE, which is below 0.
                if (learn(stored[i]) > 0) {
                    wrong = true;
                }
            }
            if (!wrong) {
                return round;
            }
        }
        return NONE;
    }

    public int save(int slot) {
        if (slot < 0 || slot >= SLOTS) {
            return BAD_INDEX;
        }
        slots[slot].copyFrom(weights);
        slotUsed[slot] = true;
        return weights.countNonZero();
    }

    public int restore(int slot) {
        if (slot < 0 || slot >= SLOTS) {
            return BAD_INDEX;
        }
        if (!slotUsed[slot]) {
            return NONE;
        }
        weights.copyFrom(slots[slot]);
        return weights.countNonZero();
    }

    public long checksum() {
        long h = mix(13, storedCount);
        for (int i = 0; i < storedCount; i++) {
            h = mixSentence(h, stored[i]);
        }
        return weights.mixInto(h);
    }

    // ---- what the calls above share

    private Sentence find(int sentence) {
        return sentence >= 0 && sentence < storedCount ? stored[sentence] : null;
    }

    private static boolean isWithin(int value, int limit) {
        return value >= -limit && value <= limit;
    }

    private static boolean isTagPair(int headTag, int wordTag) {
        return headTag >= 0 && headTag <= ROOT_TAG && wordTag >= 0 && wordTag < TAGS;
    }

    private static boolean isDistance(int direction, int distance) {
        return (direction == 0 || direction == 1) && distance >= 1 && distance <= MAX_WORDS;
    }

    private int arcScore(Sentence s, int head, int word) {
        return weights.ofArc(s, head, word) + s.biases[head][word];
    }

    private int annotationScore(Sentence s) {
        int total = 0;
        for (int word = 1; word <= s.size; word++) {
            total += arcScore(s, s.heads[word], word);
        }
        return total;
    }

    /** Leaves the first trees of the ranking, up to the number wanted, in the search. */
    private void rankTrees(Sentence s, int wanted) {
        offerArcs(s, false);
        search.seek(wanted);
    }

    private void offerArcs(Sentence s, boolean byChances) {
        search.begin(s.size);
        for (int word = 1; word <= s.size; word++) {
            int choices = s.headChoices(word);
            for (int head = 0; head <= s.size; head++) {
                if (holds(choices, head)) {
                    // All chances have one denominator, so the sums of weights stand for them.
                    search.offer(head, word, byChances ? sums.arcSum(head, word) : arcScore(s, head, word));
                }
            }
        }
    }

    /** The number of words whose head in the first tree of the search is that of the annotation. */
    private int countAgreeing(Sentence s) {
        int agreeing = 0;
        for (int word = 1; word <= s.size; word++) {
            if (search.headAt(0, word) == s.heads[word]) {
                agreeing++;
            }
        }
        return agreeing;
    }

    private int countTrees(Sentence s) {
        setPotentials(s, true);
        return (int) sums.addUp();
    }

    private long sumWeights(Sentence s) {
        setPotentials(s, false);
        return sums.addUp();
    }

    /** With 1 as the potential of each arc, the sum of the weights is the number of trees. */
    private void setPotentials(Sentence s, boolean counting) {
        sums.begin(s.size);
        for (int word = 1; word <= s.size; word++) {
            int choices = s.headChoices(word);
            for (int head = 0; head <= s.size; head++) {
                int given = 0;
                if (holds(choices, head)) {
                    given = counting ? 1 : limitPotential(arcScore(s, head, word) + settings.shift);
                }
                sums.setPotential(head, word, given);
            }
        }
    }

    private static int limitPotential(int potential) {
        return Math.max(0, Math.min(MAX_POTENTIAL, potential));
    }

    private static long greatestCommonDivisor(long a, long b) {
        long larger = b;
        long smaller = a;
        for (int step = 0; step < GCD_STEPS && smaller != 0; step++) {
            long left = larger % smaller;
            larger = smaller;
            smaller = left;
        }
        return larger;
    }

    private static int countCrossings(Sentence s) {
        int crossing = 0;
        for (int word = 2; word <= s.size; word++) {
            for (int earlier = 1; earlier < word; earlier++) {
                if (cross(s.heads[word], word, s.heads[earlier], earlier)) {
                    crossing++;
                }
            }
        }
        return crossing;
    }

    private int countTransitions(Sentence s) {
        transitionRun.arrange(s);
        transitionRun.perform();
        return transitionRun.length;
    }

    private int learn(Sentence s) {
        rankTrees(s, 1);
        if (search.found == 0) {
            return NONE;
        }
        int wrong = 0;
        for (int word = 1; word <= s.size; word++) {
            int best = search.headAt(0, word);
            if (best != s.heads[word]) {
                weights.nudge(s, s.heads[word], word, 1);
                weights.nudge(s, best, word, -1);
                wrong++;
            }
        }
        return wrong;
    }

    private static long mix(long h, long value) {
        return 31 * h + value;
    }

    private long mixSentence(long before, Sentence s) {
        rankTrees(s, 1);
        boolean some = search.found > 0;
        long h = mix(before, s.size);
        for (int word = 1; word <= s.size; word++) {
            h = mix(h, s.tags[word]);
            h = mix(h, s.heads[word]);
            h = mix(h, some ? search.headAt(0, word) : NONE);
        }
        h = mix(h, some ? search.scoreAt(0) : NONE);
        h = mix(h, countTrees(s));
        h = mix(h, sumWeights(s));
        h = mix(h, countCrossings(s));
        return mix(h, countTransitions(s));
    }

    /** Whether a set of small numbers, held as bits, has the number. */
    private static boolean holds(int set, int number) {
        return ((set >> number) & 1) == 1;
    }

    private static boolean cross(int head, int word, int otherHead, int otherWord) {
        int a = head < word ? head : word;
        int b = head < word ? word : head;
        int c = otherHead < otherWord ? otherHead : otherWord;
        int d = otherHead < otherWord ? otherWord : otherHead;
        return a < c && c < b && b < d || c < a && a < d && d < b;
    }

    /** The number of arcs from the word to the root; NONE if one does not come to the root. */
    private static int countStepsToRoot(int[] heads, int size, int word) {
        int node = word;
        for (int steps = 0; steps <= size; steps++) {
            if (node == 0) {
                return steps;
            }
            if (node < 0 || node > size) {
                return NONE;
            }
            node = heads[node];
        }
        return NONE;
    }

    private static boolean formTree(int[] heads, int size) {
        for (int word = 1; word <= size; word++) {
            if (countStepsToRoot(heads, size, word) == NONE) {
                return false;
            }
        }
        return true;
    }

    static final class Settings {
        boolean singleRoot = false;
        boolean projective = false;
        int shift = FIRST_SHIFT;
    }

    /** The bytes from which sentences are read. */
    static final class Text {
        static final int END = 59;
        static final int FIRST_TAG = 65;
        static final int FIRST_DIGIT = 48;
        static final int LAST_DIGIT = 57;

        final int[] letters = new int[TEXT_LIMIT];
        int length = 0;
        /** The heads of the sentence that is being looked at. */
        private final int[] heads = new int[NODES];

        boolean add(int letter) {
            if (length >= TEXT_LIMIT) {
                return false;
            }
            letters[length] = letter;
            length++;
            return true;
        }

        int findFault() {
            int size = 0;
            boolean digitDue = false;
            for (int i = 0; i < length; i++) {
                int letter = letters[i];
                if (digitDue) {
                    if (!isHeadOf(letter, size)) {
                        return i;
                    }
                    heads[size] = letter - FIRST_DIGIT;
                    digitDue = false;
                } else if (letter == END) {
                    if (size == 0 || !formTree(heads, size)) {
                        return i;
                    }
                    size = 0;
                } else {
                    if (!isTagLetter(letter) || size >= MAX_WORDS) {
                        return i;
                    }
                    size++;
                    digitDue = true;
                }
            }
            return length == 0 || size > 0 ? length : NONE;
        }

        /** A digit above the number of words passes here: it is only found at the semicolon. */
        private static boolean isHeadOf(int letter, int word) {
            return isDigit(letter) && letter - FIRST_DIGIT != word;
        }

        static boolean isDigit(int letter) {
            return letter >= FIRST_DIGIT && letter <= LAST_DIGIT;
        }

        private static boolean isTagLetter(int letter) {
            return letter >= FIRST_TAG && letter < FIRST_TAG + TAGS;
        }

        /** The number of sentences in a text without a fault. */
        int countSentences() {
            int ends = 0;
            for (int i = 0; i < length; i++) {
                if (letters[i] == END) {
                    ends++;
                }
            }
            return ends;
        }
    }

    /** A sentence with its annotation, and the biases and constraints of its arcs by head and word. */
    static final class Sentence {
        int size = 0;
        final int[] tags = new int[NODES];
        final int[] heads = new int[NODES];
        final int[][] biases = new int[NODES][NODES];
        final int[][] constraints = new int[NODES][NODES];

        Sentence() {
            tags[0] = ROOT_TAG;
        }

        void blank() {
            size = 0;
            for (int head = 0; head < NODES; head++) {
                for (int word = 0; word < NODES; word++) {
                    biases[head][word] = 0;
                    constraints[head][word] = FREE;
                }
            }
        }

        void addWord(int wordTag, int head) {
            if (size < MAX_WORDS) {
                size++;
                tags[size] = wordTag;
                heads[size] = head;
            }
        }

        boolean hasWord(int word) {
            return word >= 1 && word <= size;
        }

        boolean hasArc(int head, int word) {
            return hasWord(word) && head >= 0 && head <= size && head != word;
        }

        /** The heads, as bits, that the constraints leave to a word in an admissible tree. */
        int headChoices(int word) {
            int free = 0;
            int required = 0;
            for (int head = 0; head <= size; head++) {
                if (head != word && constraints[head][word] == REQUIRED) {
                    required |= 1 << head;
                } else if (head != word && constraints[head][word] == FREE) {
                    free |= 1 << head;
                }
            }
            if (required == 0) {
                return free;
            }
            // A word has only one head, so two required ones leave none.
            return Integer.bitCount(required) == 1 ? required : 0;
        }
    }

    /** The weights that are trained. */
    static final class Weights {
        final int[][] byTags = new int[ROOT_TAG + 1][TAGS];
        final int[][] byDistance = new int[2][MAX_WORDS + 1];

        int ofArc(Sentence s, int head, int word) {
            return byTags[s.tags[head]][s.tags[word]] + byDistance[direction(head, word)][Math.abs(head - word)];
        }

        void nudge(Sentence s, int head, int word, int step) {
            int[] tagRow = byTags[s.tags[head]];
            int wordTag = s.tags[word];
            tagRow[wordTag] = clamp(tagRow[wordTag] + step);
            int[] distanceRow = byDistance[direction(head, word)];
            int distance = Math.abs(head - word);
            distanceRow[distance] = clamp(distanceRow[distance] + step);
        }

        private static int direction(int head, int word) {
            return head < word ? 0 : 1;
        }

        private static int clamp(int weight) {
            return Math.max(-WEIGHT_LIMIT, Math.min(WEIGHT_LIMIT, weight));
        }

        void copyFrom(Weights other) {
            for (int headTag = 0; headTag <= ROOT_TAG; headTag++) {
                System.arraycopy(other.byTags[headTag], 0, byTags[headTag], 0, TAGS);
            }
            for (int direction = 0; direction < 2; direction++) {
                System.arraycopy(other.byDistance[direction], 0, byDistance[direction], 0, MAX_WORDS + 1);
            }
        }

        int countNonZero() {
            int count = 0;
            for (int headTag = 0; headTag <= ROOT_TAG; headTag++) {
                for (int wordTag = 0; wordTag < TAGS; wordTag++) {
                    count += byTags[headTag][wordTag] != 0 ? 1 : 0;
                }
            }
            for (int direction = 0; direction < 2; direction++) {
                for (int distance = 1; distance <= MAX_WORDS; distance++) {
                    count += byDistance[direction][distance] != 0 ? 1 : 0;
                }
            }
            return count;
        }

        long mixInto(long before) {
            long h = before;
            for (int headTag = 0; headTag <= ROOT_TAG; headTag++) {
                for (int wordTag = 0; wordTag < TAGS; wordTag++) {
                    h = mix(h, byTags[headTag][wordTag]);
                }
            }
            for (int direction = 0; direction < 2; direction++) {
                for (int distance = 1; distance <= MAX_WORDS; distance++) {
                    h = mix(h, byDistance[direction][distance]);
                }
            }
            return h;
        }
    }

    /**
     * Finds the greatest admissible trees by branch and bound, word by word.
     *
     * The value of a tree is held in one long together with its sequence of heads, written as a
     * number in base 7 and subtracted: so no two trees are equal, and of trees with equal values
     * the lexicographically first one is the greatest.
     */
    static final class TreeSearch {
        /** 7 to the power of 6. */
        private static final long SCALE = 117649;
        /** What the head of a word counts in the sequence of heads. */
        private static final int[] PLACES = {0, 16807, 2401, 343, 49, 7, 1};

        private final Settings settings;
        private int size = 0;
        private final long[][] values = new long[NODES][NODES];
        /** For each word the heads that were offered, the greatest value first. */
        private final int[][] offered = new int[NODES][NODES];
        private final int[] offers = new int[NODES];
        /** The greatest value that the words from one on can add. */
        private final long[] rest = new long[NODES + 1];
        private final int[] heads = new int[NODES];
        private final long[] kept = new long[RANKS];
        private int wanted = 0;
        int found = 0;

        TreeSearch(Settings settings) {
            this.settings = settings;
        }

        void begin(int words) {
            size = words;
            for (int word = 0; word < NODES; word++) {
                offers[word] = 0;
            }
        }

        void offer(int head, int word, long value) {
            long whole = value * SCALE - head * PLACES[word];
            int[] row = offered[word];
            int at = offers[word];
            for (; at > 0 && values[row[at - 1]][word] < whole; at--) {
                row[at] = row[at - 1];
            }
            row[at] = head;
            values[head][word] = whole;
            offers[word]++;
        }

        /** Takes back all offers for a word but one; if that was none, no tree is left. */
        void keepOnly(int head, int word) {
            int left = 0;
            for (int i = 0; i < offers[word]; i++) {
                if (offered[word][i] == head) {
                    left = 1;
                }
            }
            offered[word][0] = head;
            offers[word] = left;
        }

        void seek(int number) {
            wanted = Math.max(1, Math.min(number, RANKS));
            found = 0;
            rest[size + 1] = 0;
            for (int word = size; word >= 1; word--) {
                if (offers[word] == 0) {
                    return;
                }
                rest[word] = rest[word + 1] + values[offered[word][0]][word];
            }
            descend(1, 0, false);
        }

        private void descend(int word, long value, boolean rooted) {
            if (word > size) {
                keep(value);
                return;
            }
            for (int i = 0; i < offers[word]; i++) {
                int head = offered[word][i];
                long reached = value + values[head][word];
                // The offers behind this one have lower values, so they are hopeless as well.
                if (found == wanted && reached + rest[word + 1] <= kept[wanted - 1]) {
                    return;
                }
                boolean secondRoot = head == 0 && rooted && settings.singleRoot;
                if (!secondRoot && !closesCycle(head, word) && !(settings.projective && crossesEarlier(head, word))) {
                    heads[word] = head;
                    descend(word + 1, reached, rooted || head == 0);
                }
            }
        }

        private boolean closesCycle(int head, int word) {
            int node = head;
            // Words behind this one have no head yet, and end the way as the root does.
            for (int steps = 0; steps < word && node > 0 && node < word; steps++) {
                node = heads[node];
            }
            return node == word;
        }

        private boolean crossesEarlier(int head, int word) {
            for (int earlier = 1; earlier < word; earlier++) {
                if (cross(head, word, heads[earlier], earlier)) {
                    return true;
                }
            }
            return false;
        }

        private void keep(long value) {
            int at = found < wanted ? found : wanted - 1;
            for (; at > 0 && kept[at - 1] < value; at--) {
                kept[at] = kept[at - 1];
            }
            kept[at] = value;
            found = Math.min(found + 1, wanted);
        }

        /** The score of the tree at a place below found. */
        int scoreAt(int place) {
            return (int) -Math.floorDiv(-kept[place], SCALE);
        }

        /** The head of a word in the tree at a place below found. */
        int headAt(int place, int word) {
            int sequence = (int) Math.floorMod(-kept[place], SCALE);
            for (int behind = MAX_WORDS; behind > word; behind--) {
                sequence /= NODES;
            }
            return sequence % NODES;
        }
    }

    /**
     * Adds up the weights of all admissible trees, by sets of words.
     *
     * A set of words is held as bits, word 1 in the lowest one. A branch of a node is one
     * dependent with all words below it; a forest of a node is any number of branches.
     */
    static final class TreeSums {
        private static final int SETS = 64;

        private final Settings settings;
        private int size = 0;
        private final long[][] potentials = new long[NODES][NODES];
        private final long[][] branches = new long[NODES][SETS];
        private final long[][] forests = new long[NODES][SETS];
        /** What the sum of all trees gains when a branch or a forest gains 1. */
        private final long[][] branchGains = new long[NODES][SETS];
        private final long[][] forestGains = new long[NODES][SETS];
        private final long[][] arcGains = new long[NODES][NODES];

        TreeSums(Settings settings) {
            this.settings = settings;
        }

        void begin(int words) {
            size = words;
        }

        void setPotential(int head, int word, int potential) {
            potentials[head][word] = potential;
        }

        /** The sum of the weights of all admissible trees. */
        long addUp() {
            int all = (1 << size) - 1;
            for (int node = 0; node <= size; node++) {
                forests[node][0] = 1;
            }
            // Each sum is made of sums of smaller sets, and these have lower numbers.
            for (int set = 1; set <= all; set++) {
                for (int node = 0; node <= size; node++) {
                    if (!hasNode(set, node)) {
                        branches[node][set] = addBranches(node, set);
                        forests[node][set] = addForests(node, set);
                    }
                }
            }
            return settings.singleRoot ? branches[0][all] : forests[0][all];
        }

        private long addBranches(int node, int set) {
            if (!mayBranch(set)) {
                return 0;
            }
            long sum = 0;
            for (int word = 1; word <= size; word++) {
                if (hasNode(set, word)) {
                    sum += potentials[node][word] * forests[word][set ^ bit(word)];
                }
            }
            return sum;
        }

        /** The branch with the lowest word is chosen first, so that no forest counts twice. */
        private long addForests(int node, int set) {
            int lowest = set & -set;
            long sum = 0;
            // The next subset is always below the last one, and 0 ends the loop.
            for (int branch = set; branch > 0; branch = (branch - 1) & set) {
                if ((branch & lowest) != 0) {
                    sum += branches[node][branch] * forests[node][set ^ branch];
                }
            }
            return sum;
        }

        /** Finds what each arc adds to the sum that addUp has just found, from the whole back to the parts. */
        void spread() {
            clearGains();
            int all = (1 << size) - 1;
            if (settings.singleRoot) {
                branchGains[0][all] = 1;
            } else {
                forestGains[0][all] = 1;
            }
            for (int set = all; set >= 1; set--) {
                for (int node = 0; node <= size; node++) {
                    if (!hasNode(set, node)) {
                        spreadForest(node, set);
                        spreadBranch(node, set);
                    }
                }
            }
        }

        private void clearGains() {
            for (int node = 0; node < NODES; node++) {
                for (int set = 0; set < SETS; set++) {
                    branchGains[node][set] = 0;
                    forestGains[node][set] = 0;
                }
                for (int word = 0; word < NODES; word++) {
                    arcGains[node][word] = 0;
                }
            }
        }

        private void spreadForest(int node, int set) {
            long gain = forestGains[node][set];
            if (gain == 0) {
                return;
            }
            int lowest = set & -set;
            for (int branch = set; branch > 0; branch = (branch - 1) & set) {
                if ((branch & lowest) != 0) {
                    branchGains[node][branch] += gain * forests[node][set ^ branch];
                    forestGains[node][set ^ branch] += gain * branches[node][branch];
                }
            }
        }

        private void spreadBranch(int node, int set) {
            long gain = branchGains[node][set];
            if (gain == 0 || !mayBranch(set)) {
                return;
            }
            for (int word = 1; word <= size; word++) {
                if (hasNode(set, word)) {
                    int below = set ^ bit(word);
                    arcGains[node][word] += gain * forests[word][below];
                    forestGains[word][below] += gain * potentials[node][word];
                }
            }
        }

        /** The sum of the weights of the admissible trees with an arc, once spread has been called. */
        long arcSum(int head, int word) {
            return potentials[head][word] * arcGains[head][word];
        }

        /** In a tree without crossings the words of each branch stand side by side. */
        private boolean mayBranch(int set) {
            return !settings.projective || (set & (set + (set & -set))) == 0;
        }

        private static int bit(int word) {
            return 1 << (word - 1);
        }

        private static boolean hasNode(int set, int node) {
            return node > 0 && (set & bit(node)) != 0;
        }
    }

    /** The projective order and the transition sequence of an annotation. */
    static final class TransitionRun {
        private static final int SHIFT = 0;
        private static final int LEFT = 1;
        private static final int RIGHT = 2;
        private static final int SWAP = 3;
        private static final int STOP = 4;
        /**
         * Each word is attached once and each pair of words swapped at most once, and each word is
         * shifted once and after each swap: 42 transitions at most.
         */
        private static final int MAX_LENGTH = 64;

        private int size = 0;
        private final int[] heads = new int[NODES];
        final int[] order = new int[NODES];
        private int ordered = 0;
        private final int[] places = new int[NODES];
        final int[] sequence = new int[MAX_LENGTH];
        int length = 0;
        private final int[] stack = new int[NODES];
        private int stacked = 0;
        /** The buffer, its first entry last. */
        private final int[] buffer = new int[NODES];
        private int waiting = 0;
        private final boolean[] attached = new boolean[NODES];

        /** Takes a sentence and finds the projective order of its annotation. */
        void arrange(Sentence s) {
            size = s.size;
            System.arraycopy(s.heads, 0, heads, 0, NODES);
            ordered = 0;
            visit(0, 0);
        }

        private void visit(int node, int depth) {
            if (depth > size) {
                return;
            }
            for (int word = 1; word < node; word++) {
                if (heads[word] == node) {
                    visit(word, depth + 1);
                }
            }
            if (ordered < NODES) {
                order[ordered] = node;
                places[node] = ordered;
                ordered++;
            }
            for (int word = node + 1; word <= size; word++) {
                if (heads[word] == node) {
                    visit(word, depth + 1);
                }
            }
        }

        /** Finds the transition sequence of the annotation that has been arranged. */
        void perform() {
            length = 0;
            stack[0] = 0;
            stacked = 1;
            waiting = 0;
            for (int word = size; word >= 1; word--) {
                attached[word] = false;
                buffer[waiting] = word;
                waiting++;
            }
            for (int step = 0; step < MAX_LENGTH; step++) {
                int next = choose();
                if (next == STOP) {
                    return;
                }
                sequence[step] = next;
                length = step + 1;
                apply(next);
            }
        }

        private int choose() {
            if (stacked >= 2) {
                int top = stack[stacked - 1];
                int below = stack[stacked - 2];
                if (below != 0 && heads[below] == top && isComplete(below)) {
                    return LEFT;
                }
                if (heads[top] == below && isComplete(top)) {
                    return RIGHT;
                }
                if (below != 0 && below < top && places[below] > places[top]) {
                    return SWAP;
                }
            }
            return waiting > 0 ? SHIFT : STOP;
        }

        private boolean isComplete(int node) {
            for (int word = 1; word <= size; word++) {
                if (heads[word] == node && !attached[word]) {
                    return false;
                }
            }
            return true;
        }

        private void apply(int next) {
            if (next == SHIFT) {
                waiting--;
                stack[stacked] = buffer[waiting];
                stacked++;
                return;
            }
            int top = stack[stacked - 1];
            int below = stack[stacked - 2];
            stacked--;
            if (next == RIGHT) {
                attached[top] = true;
                return;
            }
            stack[stacked - 1] = top;
            if (next == LEFT) {
                attached[below] = true;
            } else {
                buffer[waiting] = below;
                waiting++;
            }
        }
    }
}
