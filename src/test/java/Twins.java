import java.util.ArrayList;
import java.util.List;

/**
 * Pairs of objects with the same past. A call that is made on one of the two alone, and that must
 * change nothing, leaves them so that they answer all later calls alike.
 */
final class Twins {
    /** What lies behind the two objects when the call is made. */
    enum Past { NEW, SOME, FULL, BARREN }

    /** 100 bytes without a fault, the last of which is a semicolon. */
    static final String FULL_TEXT = "A0B1C2D3E4F5;".repeat(7) + "G0H1A1B0;";

    private Twins() {
    }

    /** Makes each of the calls, separated by semicolons, on one of two new twins. */
    static void noTrace(String name, Past past, String calls) {
        for (String call : calls.split(";")) {
            Script changed = prepare(name, past).calls(call);
            Script other = prepare(name, past);
            Script.check(name + ": " + call.strip() + " leaves the object (" + past + ") as it was",
                trace(changed.parser()).equals(trace(other.parser())));
        }
    }

    /** Calls that are refused by objects of all pasts. */
    static void refused(String name, String calls) {
        for (Past past : Past.values()) {
            noTrace(name, past, calls);
        }
    }

    static Script prepare(String name, Past past) {
        Script script = new Script(name + ", " + past);
        switch (past) {
            case SOME:
                return some(script);
            case FULL:
                return full(script);
            case BARREN:
                return barren(script);
            default:
                return script;
        }
    }

    private static Script some(Script script) {
        return script.store("A2B0C2;D0;").calls("setBias(0, 3, 1, 7) = 0; setBias(1, 0, 1, -4) = 0; constrain(0, 1, 3, 2) = 0;"
            + "constrain(1, 0, 1, 1) = 0; setTagWeight(8, 1, 5) = 0; setDistanceWeight(1, 2, -3) = 0;"
            + "setDistanceWeight(0, 6, 9) = 0; save(0) = 3; setTagWeight(0, 0, 4) = 0; setSingleRoot(true) = 0;"
            + "setShift(3) = 10").type("E0;F");
    }

    private static Script full(Script script) {
        return script.store("A0B1;C2D3E4F5G6H0;A0;B3C0D2;").calls("setBias(1, 6, 1, 99) = 0; setBias(3, 0, 3, -99) = 0;"
            + "constrain(0, 0, 1, 1) = 0; constrain(1, 5, 6, 2) = 0; setTagWeight(8, 7, 99) = 0; save(1) = 1;"
            + "setDistanceWeight(1, 6, -99) = 0; save(0) = 2; setTagWeight(0, 1, -1) = 0; setProjective(true) = 0;"
            + "setShift(-2) = 10").type(FULL_TEXT);
    }

    /** The first sentence has no admissible tree. */
    private static Script barren(Script script) {
        return script.store("A2B0;C0D1;").calls("constrain(0, 0, 1, 2) = 0; constrain(0, 0, 2, 2) = 0; setBias(0, 2, 1, 5) = 0;"
            + "setTagWeight(1, 0, 6) = 0; setDistanceWeight(1, 1, 7) = 0").type("A");
    }

    /** All that can be learned from an object, which is used up by it. */
    private static List<Long> trace(ArcFactoredParser parser) {
        List<Long> seen = new ArrayList<>();
        seen.add(parser.checksum());
        traceSentences(parser, seen);
        seen.add((long) parser.faultPosition());
        seen.add((long) parser.setSingleRoot(false));
        seen.add((long) parser.setProjective(false));
        seen.add((long) parser.setShift(0));
        for (int headTag = 0; headTag <= 8; headTag++) {
            for (int wordTag = 0; wordTag <= 7; wordTag++) {
                seen.add((long) parser.tagWeight(headTag, wordTag));
            }
        }
        for (int distance = 1; distance <= 6; distance++) {
            seen.add((long) parser.distanceWeight(0, distance));
            seen.add((long) parser.distanceWeight(1, distance));
        }
        for (int slot = 0; slot <= 1; slot++) {
            seen.add((long) parser.restore(slot));
            seen.add(parser.checksum());
        }
        traceText(parser, seen);
        return seen;
    }

    private static void traceSentences(ArcFactoredParser parser, List<Long> seen) {
        seen.add((long) parser.sentences());
        for (int sentence = 0; sentence < parser.sentences(); sentence++) {
            int words = parser.words(sentence);
            for (int word = 1; word <= words; word++) {
                seen.add((long) parser.tag(sentence, word));
                seen.add((long) parser.annotatedHead(sentence, word));
                for (int head = 0; head <= words; head++) {
                    seen.add((long) parser.setBias(sentence, head, word, 0));
                    seen.add((long) parser.constrain(sentence, head, word, 0));
                }
            }
        }
    }

    /** The bytes are seen by reading them; what has begun is ended first. */
    private static void traceText(ArcFactoredParser parser, List<Long> seen) {
        seen.add((long) parser.append('0'));
        seen.add((long) parser.append(';'));
        for (int left = parser.sentences(); left > 0; left--) {
            seen.add((long) parser.remove(0));
        }
        seen.add((long) parser.faultPosition());
        seen.add((long) parser.read());
        seen.add(parser.checksum());
        seen.add((long) parser.clearText());
    }
}
