import java.lang.reflect.Method;

/**
 * Makes calls on one new object and looks at their answers. The calls are written as in the
 * document: "append(65) = 1; read() = FAULT".
 */
final class Script {
    private static int wrong = 0;
    private static int looked = 0;

    /** What an object answers after so many calls is free, so no test may rest on it. */
    private static final int MOST_CALLS = 512;

    private final String name;
    private final ArcFactoredParser parser = new ArcFactoredParser();
    private int used = 0;

    Script(String name) {
        this.name = name;
    }

    /** The object, for a test that has to make calls of its own. */
    ArcFactoredParser parser() {
        return parser;
    }

    /** Appends a text to the text of the object. */
    Script type(String text) {
        for (int i = 0; i < text.length(); i++) {
            parser.append(text.charAt(i));
        }
        count(text.length());
        return this;
    }

    /** Stores the sentences of a text and leaves the text empty. */
    Script store(String text) {
        parser.clearText();
        type(text);
        int before = parser.sentences();
        int after = parser.read();
        if (after <= before) {
            report("read() of " + text, after, before + 1L);
        }
        parser.clearText();
        count(4);
        return this;
    }

    /** Makes a call once for each value, which stands for the question mark; each time the answer is the same. */
    Script each(String call, String due, int... values) {
        for (int value : values) {
            call(call.replace("?", Integer.toString(value)) + " = " + due);
        }
        return this;
    }

    /** Makes a call with values just outside a range, and with such that only their lowest bits bring inside. */
    Script outside(String call, String due, int low, int high) {
        return each(call, due, low - 1, high + 1, low - 256, low + 256, low + 65536, Integer.MIN_VALUE + low,
            Integer.MIN_VALUE, Integer.MAX_VALUE);
    }

    Script calls(String calls) {
        for (String part : calls.split(";")) {
            if (!part.isBlank()) {
                call(part.strip());
            }
        }
        return this;
    }

    private void call(String line) {
        int open = line.indexOf('(');
        int close = line.indexOf(')');
        String given = line.substring(open + 1, close).strip();
        String[] words = given.isEmpty() ? new String[0] : given.split(",");
        String due = line.substring(line.indexOf('=', close) + 1).strip();
        looked++;
        count(1);
        try {
            Method method = find(line.substring(0, open).strip(), words.length);
            long answer = ((Number) method.invoke(parser, arguments(method, words))).longValue();
            if (answer != number(due)) {
                report(line.substring(0, close + 1), answer, number(due));
            }
        } catch (ReflectiveOperationException e) {
            wrong++;
            System.out.println(name + ": " + line + ": " + (e.getCause() == null ? e : e.getCause()));
        }
    }

    private void count(int calls) {
        used += calls;
        if (used > MOST_CALLS) {
            check(name + ": at most " + MOST_CALLS + " calls on one object", false);
        }
    }

    private void report(String call, long answer, long due) {
        wrong++;
        System.out.println(name + ": " + call + " answered " + answer + ", due is " + due);
    }

    private static Method find(String name, int arguments) throws NoSuchMethodException {
        for (Method method : ArcFactoredParser.class.getDeclaredMethods()) {
            if (method.getName().equals(name) && method.getParameterCount() == arguments) {
                return method;
            }
        }
        throw new NoSuchMethodException(name);
    }

    private static Object[] arguments(Method method, String[] words) {
        Class<?>[] types = method.getParameterTypes();
        Object[] values = new Object[words.length];
        for (int i = 0; i < words.length; i++) {
            String word = words[i].strip();
            values[i] = types[i] == boolean.class ? (Object) Boolean.valueOf(word) : (Object) Integer.valueOf(word);
        }
        return values;
    }

    private static long number(String due) {
        switch (due) {
            case "BAD_INDEX": return -1000001;
            case "BAD_VALUE": return -1000002;
            case "FULL": return -1000003;
            case "NONE": return -1000004;
            case "FAULT": return -1000005;
            default: return Long.parseLong(due);
        }
    }

    /** Looks at one fact that is not the answer of a single call. */
    static void check(String what, boolean holds) {
        looked++;
        if (!holds) {
            wrong++;
            System.out.println(what + " does not hold");
        }
    }

    /** Ends a test: with exit code 1 if an answer was wrong, or if nothing was looked at. */
    static void end() {
        System.out.println(looked + " answers, " + wrong + " of them wrong");
        if (wrong > 0 || looked == 0) {
            System.exit(1);
        }
    }
}
