import java.lang.reflect.InvocationTargetException;
import java.lang.reflect.Method;
import java.util.ArrayList;
import java.util.Arrays;
import java.util.Comparator;
import java.util.List;
import java.util.Random;

/**
 * Runs of chosen-at-random calls (always the same ones), made on the class and on the plain
 * parser; each answer must be the same. An argument may give the number of runs and the seed.
 */
public final class RandomRunsTest {
    private static final int[] WILD = {Integer.MIN_VALUE, -1000004, -1, 7, 8, 9, 100, 128, Integer.MAX_VALUE};

    private final Random random;
    private final ArcFactoredParser parser = new ArcFactoredParser();
    private final PlainParser plain = new PlainParser();
    private final List<String> done = new ArrayList<>();
    /** The longest sentences that this run makes; long ones are slow in the plain parser. */
    private final int longest;
    /** How far the weights and biases of this run go; small ones give many trees with equal scores. */
    private final int spread;

    private RandomRunsTest(long seed) {
        random = new Random(seed);
        longest = random.nextInt(8) == 0 ? 6 : 1 + random.nextInt(5);
        spread = new int[] {1, 3, 12, 99}[random.nextInt(4)];
    }

    public static void main(String[] args) throws IllegalAccessException {
        int runs = args.length > 0 ? Integer.parseInt(args[0]) : 250;
        long seed = args.length > 1 ? Long.parseLong(args[1]) : 1;
        Method[] methods = methods();
        int calls = 0;
        for (int run = 0; run < runs; run++) {
            calls += new RandomRunsTest(seed + run).go(methods);
        }
        System.out.println(runs + " runs, " + calls + " answers, none of them wrong");
    }

    private static Method[] methods() {
        // The order in which the machine lists methods is not promised.
        return Arrays.stream(PlainParser.class.getDeclaredMethods())
            .filter(method -> Arrays.stream(ArcFactoredParser.class.getMethods()).anyMatch(m -> m.getName().equals(method.getName())))
            .sorted(Comparator.comparing(Method::getName)).toArray(Method[]::new);
    }

    private int go(Method[] methods) throws IllegalAccessException {
        int length = longest == 6 ? 60 : 160;
        while (done.size() < length) {
            if (random.nextInt(12) == 0 && parser.sentences() < 4) {
                typeSentences();
            } else {
                Method method = methods[random.nextInt(methods.length)];
                boolean rare = method.getName().equals("remove") || method.getName().equals("clearText");
                if (!rare || random.nextInt(4) == 0) {
                    call(method);
                }
            }
        }
        return done.size();
    }

    private void typeSentences() throws IllegalAccessException {
        both("clearText");
        StringBuilder text = new StringBuilder();
        for (int sentence = random.nextInt(2); sentence >= 0; sentence--) {
            int size = 1 + random.nextInt(longest);
            int[] heads = PlainParser.randomTree(size, random);
            for (int head : heads) {
                text.append((char) ('A' + random.nextInt(spread < 5 ? 2 : 8))).append(head);
            }
            text.append(';');
        }
        if (random.nextInt(4) == 0) {
            text.setCharAt(random.nextInt(text.length()), ";A1H0I9".charAt(random.nextInt(7)));
        }
        for (int i = 0; i < text.length(); i++) {
            both("append", (int) text.charAt(i));
        }
        both("faultPosition");
        both("read");
    }

    private void call(Method method) throws IllegalAccessException {
        Class<?>[] types = method.getParameterTypes();
        Object[] arguments = new Object[types.length];
        for (int i = 0; i < types.length; i++) {
            arguments[i] = types[i] == boolean.class ? (Object) random.nextBoolean()
                : (Object) argument(method.getName(), i, types.length);
        }
        both(method.getName(), arguments);
    }

    private int argument(String name, int index, int count) {
        if (random.nextInt(40) == 0) {
            return WILD[random.nextInt(WILD.length)];
        }
        boolean last = index == count - 1;
        switch (name) {
            case "append": return "A0B1C2;D3E4".charAt(random.nextInt(11));
            case "setTagWeight": return last ? spreadOut() : random.nextInt(spread < 5 ? 3 : 9);
            case "tagWeight": return random.nextInt(9);
            case "setDistanceWeight": return last ? spreadOut() : index == 0 ? random.nextInt(2) : 1 + random.nextInt(6);
            case "distanceWeight": return index == 0 ? random.nextInt(2) : 1 + random.nextInt(6);
            case "setShift": return random.nextInt(4) == 0 ? random.nextInt(203) - 101 : random.nextInt(25);
            case "trainAll": return random.nextInt(13) - 1;
            case "save": return random.nextInt(2);
            case "restore": return random.nextInt(2);
            default: break;
        }
        if (index == 0) {
            return random.nextInt(Math.max(1, parser.sentences()));
        }
        if (last && name.equals("setBias")) {
            return spreadOut();
        }
        if (last && name.equals("constrain")) {
            return Math.max(0, random.nextInt(6) - 3);
        }
        if (name.equals("transition")) {
            return random.nextInt(30);
        }
        return random.nextInt(longest + 1);
    }

    private int spreadOut() {
        return random.nextInt(2 * spread + 1) - spread;
    }

    private void both(String name, Object... arguments) throws IllegalAccessException {
        long due = answer(plain, name, arguments);
        long got = answer(parser, name, arguments);
        done.add(name + Arrays.toString(arguments).replace('[', '(').replace(']', ')') + " = " + due);
        if (got != due) {
            System.out.println(String.join("; ", done));
            System.out.println("but the last call answered " + got);
            System.exit(1);
        }
    }

    private static long answer(Object object, String name, Object[] arguments) throws IllegalAccessException {
        for (Method method : object.getClass().getDeclaredMethods()) {
            if (method.getName().equals(name) && method.getParameterCount() == arguments.length) {
                try {
                    return ((Number) method.invoke(object, arguments)).longValue();
                } catch (InvocationTargetException e) {
                    throw new IllegalStateException(name + Arrays.toString(arguments), e.getCause());
                }
            }
        }
        throw new IllegalStateException(name);
    }
}
