import java.math.BigInteger;
import java.util.ArrayList;
import java.util.Arrays;
import java.util.Comparator;
import java.util.List;
import java.util.Random;

/**
 * The document once more, in its plainest form: all sequences of heads are written down, those
 * that are not admissible trees are left out, and what is left is sorted. It shares no code and
 * no method with the class that it is compared with.
 */
final class PlainParser {
    static final int BAD_INDEX = -1000001;
    static final int BAD_VALUE = -1000002;
    static final int FULL = -1000003;
    static final int NONE = -1000004;
    static final int FAULT = -1000005;

    /** One sentence; heads are indexed by the word minus 1. */
    private static final class Item {
        final List<Integer> tags = new ArrayList<>();
        final List<Integer> heads = new ArrayList<>();
        final int[][] bias = new int[7][7];
        final int[][] constraint = new int[7][7];
    }

    /** All trees by the number of words, in lexicographic order; they never change. */
    private static final List<List<int[]>> TREES = new ArrayList<>();

    private String text = "";
    private final List<Item> items = new ArrayList<>();
    private int[][] tagWeights = new int[9][8];
    private int[][] distanceWeights = new int[2][7];
    private final int[][][] savedTags = new int[2][][];
    private final int[][][] savedDistances = new int[2][][];
    private boolean singleRoot = false;
    private boolean projective = false;
    private int shift = 10;

    static {
        for (int size = 0; size <= 6; size++) {
            List<int[]> trees = new ArrayList<>();
            extend(new int[size], 0, trees);
            TREES.add(trees);
        }
    }

    private static void extend(int[] heads, int at, List<int[]> trees) {
        if (at == heads.length) {
            if (isTree(heads)) {
                trees.add(heads.clone());
            }
            return;
        }
        for (int head = 0; head <= heads.length; head++) {
            heads[at] = head;
            extend(heads, at + 1, trees);
        }
    }

    static List<int[]> trees(int size) {
        return TREES.get(size);
    }

    static int[] randomTree(int size, Random random) {
        List<int[]> trees = TREES.get(size);
        return trees.get(random.nextInt(trees.size()));
    }

    private static boolean isTree(int[] heads) {
        for (int word = 1; word <= heads.length; word++) {
            int node = word;
            for (int step = 0; step < 20 && node != 0; step++) {
                if (node > heads.length) {
                    return false;
                }
                node = heads[node - 1];
            }
            if (node != 0) {
                return false;
            }
        }
        return true;
    }

    private static int[] array(List<Integer> list) {
        return list.stream().mapToInt(Integer::intValue).toArray();
    }

    private boolean no(int sentence) {
        return sentence < 0 || sentence >= items.size();
    }

    private boolean noWord(int sentence, int word) {
        return no(sentence) || word < 1 || word > items.get(sentence).tags.size();
    }

    private boolean noArc(int sentence, int head, int word) {
        return noWord(sentence, word) || head < 0 || head > items.get(sentence).tags.size() || head == word;
    }

    // ---- sentences and text

    int append(int letter) {
        if (letter < 0 || letter > 127) {
            return BAD_VALUE;
        }
        if (text.length() == 100) {
            return FULL;
        }
        text += (char) letter;
        return text.length();
    }

    int clearText() {
        int length = text.length();
        text = "";
        return length;
    }

    /** A beginning of the text is right if something can be put behind it so that there is no fault. */
    int faultPosition() {
        if (text.matches("((?:[A-H][0-9]){1,6};)+") && wrongSemicolon() < 0 && ownHead() < 0) {
            return NONE;
        }
        int position = text.length();
        for (int length = 1; length <= text.length(); length++) {
            if (!text.substring(0, length).matches("((?:[A-H][0-9]){1,6};)*([A-H][0-9]){0,6}([A-H]?)")
                || endsWithSevenWords(text.substring(0, length))) {
                position = length - 1;
                break;
            }
        }
        if (ownHead() >= 0) {
            position = Math.min(position, ownHead());
        }
        if (wrongSemicolon() >= 0) {
            position = Math.min(position, wrongSemicolon());
        }
        return position;
    }

    private static boolean endsWithSevenWords(String start) {
        return start.length() - (start.lastIndexOf(';') + 1) > 12;
    }

    private int ownHead() {
        int begin = 0;
        for (int i = 0; i < text.length(); i++) {
            if (text.charAt(i) == ';') {
                begin = i + 1;
            } else if ((i - begin) % 2 == 1 && text.charAt(i) - '0' == (i - begin) / 2 + 1) {
                return i;
            }
        }
        return -1;
    }

    private int wrongSemicolon() {
        int begin = 0;
        for (int i = 0; i < text.length(); i++) {
            if (text.charAt(i) == ';') {
                int[] heads = new int[(i - begin) / 2];
                for (int k = 0; k < heads.length; k++) {
                    heads[k] = Math.max(0, text.charAt(begin + 2 * k + 1) - '0');
                }
                if (!isTree(heads)) {
                    return i;
                }
                begin = i + 1;
            }
        }
        return -1;
    }

    int read() {
        if (faultPosition() != NONE) {
            return FAULT;
        }
        String[] parts = text.split(";");
        if (items.size() + parts.length > 4) {
            return FULL;
        }
        for (String part : parts) {
            Item item = new Item();
            for (int i = 0; i < part.length(); i += 2) {
                item.tags.add(part.charAt(i) - 'A');
                item.heads.add(part.charAt(i + 1) - '0');
            }
            items.add(item);
        }
        return items.size();
    }

    int remove(int sentence) {
        if (no(sentence)) {
            return BAD_INDEX;
        }
        items.remove(sentence);
        return items.size();
    }

    int sentences() {
        return items.size();
    }

    int words(int sentence) {
        return no(sentence) ? BAD_INDEX : items.get(sentence).tags.size();
    }

    int tag(int sentence, int word) {
        return noWord(sentence, word) ? BAD_INDEX : items.get(sentence).tags.get(word - 1);
    }

    int annotatedHead(int sentence, int word) {
        return noWord(sentence, word) ? BAD_INDEX : items.get(sentence).heads.get(word - 1);
    }

    int annotate(int sentence, int word, int head) {
        if (noArc(sentence, head, word)) {
            return BAD_INDEX;
        }
        int[] heads = array(items.get(sentence).heads);
        heads[word - 1] = head;
        return isTree(heads) ? items.get(sentence).heads.set(word - 1, head) : BAD_VALUE;
    }

    int acceptBest(int sentence) {
        if (no(sentence)) {
            return BAD_INDEX;
        }
        List<int[]> ranking = ranking(sentence);
        if (ranking.isEmpty()) {
            return NONE;
        }
        int changed = 0;
        for (int word = 1; word <= words(sentence); word++) {
            int head = ranking.get(0)[word - 1];
            if (items.get(sentence).heads.set(word - 1, head) != head) {
                changed++;
            }
        }
        return changed;
    }

    // ---- scores and settings

    int setTagWeight(int headTag, int wordTag, int weight) {
        if (headTag < 0 || headTag > 8 || wordTag < 0 || wordTag > 7) {
            return BAD_INDEX;
        }
        if (weight < -99 || weight > 99) {
            return BAD_VALUE;
        }
        int old = tagWeights[headTag][wordTag];
        tagWeights[headTag][wordTag] = weight;
        return old;
    }

    int setDistanceWeight(int direction, int distance, int weight) {
        if (direction < 0 || direction > 1 || distance < 1 || distance > 6) {
            return BAD_INDEX;
        }
        if (weight < -99 || weight > 99) {
            return BAD_VALUE;
        }
        int old = distanceWeights[direction][distance];
        distanceWeights[direction][distance] = weight;
        return old;
    }

    int setBias(int sentence, int head, int word, int bias) {
        if (noArc(sentence, head, word)) {
            return BAD_INDEX;
        }
        if (bias < -99 || bias > 99) {
            return BAD_VALUE;
        }
        int old = items.get(sentence).bias[head][word];
        items.get(sentence).bias[head][word] = bias;
        return old;
    }

    int constrain(int sentence, int head, int word, int constraint) {
        if (noArc(sentence, head, word)) {
            return BAD_INDEX;
        }
        if (constraint < 0 || constraint > 2) {
            return BAD_VALUE;
        }
        int old = items.get(sentence).constraint[head][word];
        items.get(sentence).constraint[head][word] = constraint;
        return old;
    }

    int setSingleRoot(boolean on) {
        int old = singleRoot ? 1 : 0;
        singleRoot = on;
        return old;
    }

    int setProjective(boolean on) {
        int old = projective ? 1 : 0;
        projective = on;
        return old;
    }

    int setShift(int shift) {
        if (shift < -100 || shift > 100) {
            return BAD_VALUE;
        }
        int old = this.shift;
        this.shift = shift;
        return old;
    }

    int tagWeight(int headTag, int wordTag) {
        return headTag < 0 || headTag > 8 || wordTag < 0 || wordTag > 7 ? BAD_INDEX : tagWeights[headTag][wordTag];
    }

    int distanceWeight(int direction, int distance) {
        return direction < 0 || direction > 1 || distance < 1 || distance > 6 ? BAD_INDEX
            : distanceWeights[direction][distance];
    }

    int score(int sentence, int head, int word) {
        if (noArc(sentence, head, word)) {
            return BAD_INDEX;
        }
        int headTag = head == 0 ? 8 : tag(sentence, head);
        return tagWeights[headTag][tag(sentence, word)] + distanceWeights[head > word ? 1 : 0][Math.abs(head - word)]
            + items.get(sentence).bias[head][word];
    }

    // ---- best trees and the ranking

    private int scoreOf(int sentence, int[] heads) {
        int sum = 0;
        for (int word = 1; word <= heads.length; word++) {
            sum += score(sentence, heads[word - 1], word);
        }
        return sum;
    }

    private static int crossingsOf(int[] heads) {
        int count = 0;
        for (int v = 1; v <= heads.length; v++) {
            for (int w = 1; w <= heads.length; w++) {
                int a = Math.min(v, heads[v - 1]);
                int b = Math.max(v, heads[v - 1]);
                int c = Math.min(w, heads[w - 1]);
                int d = Math.max(w, heads[w - 1]);
                // Each pair of arcs is looked at in both orders.
                count += a < c && c < b && b < d ? 1 : 0;
            }
        }
        return count;
    }

    private boolean isAdmissible(int sentence, int[] heads) {
        int roots = 0;
        for (int word = 1; word <= heads.length; word++) {
            roots += heads[word - 1] == 0 ? 1 : 0;
            for (int head = 0; head <= heads.length; head++) {
                int constraint = items.get(sentence).constraint[head][word];
                boolean isIn = heads[word - 1] == head;
                if (constraint == 1 && !isIn || constraint == 2 && isIn) {
                    return false;
                }
            }
        }
        return !(singleRoot && roots != 1) && !(projective && crossingsOf(heads) > 0);
    }

    private List<int[]> admissible(int sentence) {
        List<int[]> list = new ArrayList<>();
        for (int[] tree : TREES.get(words(sentence))) {
            if (isAdmissible(sentence, tree)) {
                list.add(tree);
            }
        }
        return list;
    }

    private List<int[]> ranking(int sentence) {
        List<int[]> list = admissible(sentence);
        // The sort is stable and the trees stand in lexicographic order.
        list.sort(Comparator.comparingInt(tree -> -scoreOf(sentence, tree)));
        return list;
    }

    int bestScore(int sentence) {
        return rankedScore(sentence, 0);
    }

    int bestHead(int sentence, int word) {
        return rankedHead(sentence, 0, word);
    }

    int rankedScore(int sentence, int rank) {
        if (no(sentence)) {
            return BAD_INDEX;
        }
        if (rank < 0 || rank > 5) {
            return BAD_VALUE;
        }
        List<int[]> ranking = ranking(sentence);
        return rank < ranking.size() ? scoreOf(sentence, ranking.get(rank)) : NONE;
    }

    int rankedHead(int sentence, int rank, int word) {
        if (noWord(sentence, word)) {
            return BAD_INDEX;
        }
        if (rank < 0 || rank > 5) {
            return BAD_VALUE;
        }
        List<int[]> ranking = ranking(sentence);
        return rank < ranking.size() ? ranking.get(rank)[word - 1] : NONE;
    }

    int regret(int sentence, int head, int word) {
        if (noArc(sentence, head, word)) {
            return BAD_INDEX;
        }
        List<int[]> ranking = ranking(sentence);
        for (int[] tree : ranking) {
            if (tree[word - 1] == head) {
                return scoreOf(sentence, ranking.get(0)) - scoreOf(sentence, tree);
            }
        }
        return NONE;
    }

    int margin(int sentence) {
        if (no(sentence)) {
            return BAD_INDEX;
        }
        int[] annotation = array(items.get(sentence).heads);
        for (int[] tree : ranking(sentence)) {
            if (!Arrays.equals(tree, annotation)) {
                return scoreOf(sentence, annotation) - scoreOf(sentence, tree);
            }
        }
        return NONE;
    }

    int correct(int sentence) {
        if (no(sentence)) {
            return BAD_INDEX;
        }
        List<int[]> ranking = ranking(sentence);
        return ranking.isEmpty() ? NONE : words(sentence) - wrongWords(sentence, ranking.get(0));
    }

    private int wrongWords(int sentence, int[] tree) {
        int wrong = 0;
        for (int word = 1; word <= tree.length; word++) {
            wrong += tree[word - 1] != annotatedHead(sentence, word) ? 1 : 0;
        }
        return wrong;
    }

    int treeCount(int sentence) {
        return no(sentence) ? BAD_INDEX : admissible(sentence).size();
    }

    // ---- chances

    private long weightOf(int sentence, int[] tree) {
        long product = 1;
        for (int word = 1; word <= tree.length; word++) {
            int potential = score(sentence, tree[word - 1], word) + shift;
            product *= potential < 0 ? 0 : potential > 20 ? 20 : potential;
        }
        return product;
    }

    long weightSum(int sentence) {
        return no(sentence) ? BAD_INDEX : admissible(sentence).stream().mapToLong(tree -> weightOf(sentence, tree)).sum();
    }

    long chance(int sentence, int head, int word, boolean denominator) {
        if (noArc(sentence, head, word)) {
            return BAD_INDEX;
        }
        BigInteger all = BigInteger.valueOf(weightSum(sentence));
        if (all.signum() == 0) {
            return NONE;
        }
        BigInteger part = BigInteger.valueOf(arcSums(sentence)[head][word]);
        return (denominator ? all : part).divide(all.gcd(part)).longValueExact();
    }

    private long[][] arcSums(int sentence) {
        long[][] sums = new long[7][7];
        for (int[] tree : admissible(sentence)) {
            long weight = weightOf(sentence, tree);
            for (int word = 1; word <= tree.length; word++) {
                sums[tree[word - 1]][word] += weight;
            }
        }
        return sums;
    }

    int riskHead(int sentence, int word) {
        if (noWord(sentence, word)) {
            return BAD_INDEX;
        }
        if (weightSum(sentence) == 0) {
            return NONE;
        }
        long[][] sums = arcSums(sentence);
        long greatest = -1;
        int[] found = null;
        for (int[] tree : admissible(sentence)) {
            long sum = 0;
            for (int w = 1; w <= tree.length; w++) {
                sum += sums[tree[w - 1]][w];
            }
            if (sum > greatest) {
                greatest = sum;
                found = tree;
            }
        }
        return found[word - 1];
    }

    // ---- annotations as trees

    int crossings(int sentence) {
        return no(sentence) ? BAD_INDEX : crossingsOf(array(items.get(sentence).heads));
    }

    int depth(int sentence, int word) {
        if (noWord(sentence, word)) {
            return BAD_INDEX;
        }
        int head = annotatedHead(sentence, word);
        return head == 0 ? 1 : 1 + depth(sentence, head);
    }

    private List<Integer> orderBelow(int sentence, int node) {
        List<Integer> order = new ArrayList<>();
        for (int word = 1; word <= words(sentence); word++) {
            if (word < node && annotatedHead(sentence, word) == node) {
                order.addAll(orderBelow(sentence, word));
            }
        }
        order.add(node);
        for (int word = 1; word <= words(sentence); word++) {
            if (word > node && annotatedHead(sentence, word) == node) {
                order.addAll(orderBelow(sentence, word));
            }
        }
        return order;
    }

    int projectiveOrder(int sentence, int index) {
        return no(sentence) || index < 0 || index >= words(sentence) ? BAD_INDEX : orderBelow(sentence, 0).get(index + 1);
    }

    List<Integer> sequence(int sentence) {
        List<Integer> order = orderBelow(sentence, 0);
        List<Integer> stack = new ArrayList<>(List.of(0));
        List<Integer> buffer = new ArrayList<>();
        List<Integer> attached = new ArrayList<>();
        for (int word = 1; word <= words(sentence); word++) {
            buffer.add(word);
        }
        List<Integer> result = new ArrayList<>();
        while (true) {
            int last = stack.size() - 1;
            int j = stack.get(last);
            int i = last > 0 ? stack.get(last - 1) : -1;
            if (i > 0 && annotatedHead(sentence, i) == j && allAttached(sentence, i, attached)) {
                result.add(1);
                attached.add(stack.remove(last - 1));
            } else if (i >= 0 && annotatedHead(sentence, j) == i && allAttached(sentence, j, attached)) {
                result.add(2);
                attached.add(stack.remove(last));
            } else if (i > 0 && i < j && order.indexOf(i) > order.indexOf(j)) {
                result.add(3);
                buffer.add(0, stack.remove(last - 1));
            } else if (!buffer.isEmpty()) {
                result.add(0);
                stack.add(buffer.remove(0));
            } else {
                return result;
            }
        }
    }

    private boolean allAttached(int sentence, int node, List<Integer> attached) {
        for (int word = 1; word <= words(sentence); word++) {
            if (annotatedHead(sentence, word) == node && !attached.contains(word)) {
                return false;
            }
        }
        return true;
    }

    int transitions(int sentence) {
        return no(sentence) ? BAD_INDEX : sequence(sentence).size();
    }

    int transition(int sentence, int index) {
        if (no(sentence)) {
            return BAD_INDEX;
        }
        List<Integer> sequence = sequence(sentence);
        return index < 0 || index >= sequence.size() ? NONE : sequence.get(index);
    }

    // ---- training, slots, checksum

    int train(int sentence) {
        if (no(sentence)) {
            return BAD_INDEX;
        }
        List<int[]> ranking = ranking(sentence);
        if (ranking.isEmpty()) {
            return NONE;
        }
        int[] best = ranking.get(0);
        int wrong = wrongWords(sentence, best);
        for (int word = 1; word <= best.length; word++) {
            if (best[word - 1] != annotatedHead(sentence, word)) {
                change(sentence, annotatedHead(sentence, word), word, 1);
                change(sentence, best[word - 1], word, -1);
            }
        }
        return wrong;
    }

    private void change(int sentence, int head, int word, int by) {
        int headTag = head == 0 ? 8 : tag(sentence, head);
        int wordTag = tag(sentence, word);
        if (Math.abs(tagWeights[headTag][wordTag] + by) <= 999) {
            tagWeights[headTag][wordTag] += by;
        }
        int direction = head > word ? 1 : 0;
        int distance = Math.abs(head - word);
        if (Math.abs(distanceWeights[direction][distance] + by) <= 999) {
            distanceWeights[direction][distance] += by;
        }
    }

    int trainAll(int rounds) {
        if (rounds < 1 || rounds > 10) {
            return BAD_VALUE;
        }
        int withWrong = 0;
        while (withWrong < rounds) {
            int wrong = 0;
            for (int sentence = 0; sentence < items.size(); sentence++) {
                wrong += Math.max(0, train(sentence));
            }
            if (wrong == 0) {
                return withWrong;
            }
            withWrong++;
        }
        return NONE;
    }

    private static int[][] copy(int[][] table) {
        return Arrays.stream(table).map(int[]::clone).toArray(int[][]::new);
    }

    private int nonZero() {
        return (int) (Arrays.stream(tagWeights).flatMapToInt(Arrays::stream).filter(w -> w != 0).count()
            + Arrays.stream(distanceWeights).flatMapToInt(Arrays::stream).filter(w -> w != 0).count());
    }

    int save(int slot) {
        if (slot != 0 && slot != 1) {
            return BAD_INDEX;
        }
        savedTags[slot] = copy(tagWeights);
        savedDistances[slot] = copy(distanceWeights);
        return nonZero();
    }

    int restore(int slot) {
        if (slot != 0 && slot != 1) {
            return BAD_INDEX;
        }
        if (savedTags[slot] == null) {
            return NONE;
        }
        tagWeights = copy(savedTags[slot]);
        distanceWeights = copy(savedDistances[slot]);
        return nonZero();
    }

    long checksum() {
        List<Long> values = new ArrayList<>();
        values.add((long) sentences());
        for (int s = 0; s < sentences(); s++) {
            values.add((long) words(s));
            for (int word = 1; word <= words(s); word++) {
                values.add((long) tag(s, word));
                values.add((long) annotatedHead(s, word));
                values.add((long) bestHead(s, word));
            }
            values.add((long) bestScore(s));
            values.add((long) treeCount(s));
            values.add(weightSum(s));
            values.add((long) crossings(s));
            values.add((long) transitions(s));
        }
        for (int[] row : tagWeights) {
            for (int weight : row) {
                values.add((long) weight);
            }
        }
        for (int[] row : distanceWeights) {
            for (int distance = 1; distance <= 6; distance++) {
                values.add((long) row[distance]);
            }
        }
        long h = 13;
        for (long value : values) {
            h = 31 * h + value;
        }
        return h;
    }
}
