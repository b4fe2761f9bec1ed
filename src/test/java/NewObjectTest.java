import java.lang.reflect.Constructor;
import java.lang.reflect.Field;
import java.lang.reflect.Method;
import java.lang.reflect.Modifier;
import java.util.Set;
import java.util.TreeSet;

/** Promise 1 (a new object), and the public face. */
public final class NewObjectTest {
    private static final String[] FACE = {
        "int append(int)", "int clearText()", "int faultPosition()", "int read()", "int remove(int)",
        "int sentences()", "int words(int)", "int tag(int,int)", "int annotatedHead(int,int)",
        "int annotate(int,int,int)", "int acceptBest(int)", "int setTagWeight(int,int,int)",
        "int setDistanceWeight(int,int,int)", "int setBias(int,int,int,int)", "int constrain(int,int,int,int)",
        "int setSingleRoot(boolean)", "int setProjective(boolean)", "int setShift(int)", "int tagWeight(int,int)",
        "int distanceWeight(int,int)", "int score(int,int,int)", "int bestScore(int)", "int bestHead(int,int)",
        "int rankedScore(int,int)", "int rankedHead(int,int,int)", "int regret(int,int,int)", "int margin(int)",
        "int correct(int)", "int treeCount(int)", "long weightSum(int)", "long chance(int,int,int,boolean)",
        "int riskHead(int,int)", "int crossings(int)", "int depth(int,int)", "int projectiveOrder(int,int)",
        "int transitions(int)", "int transition(int,int)", "int train(int)", "int trainAll(int)", "int save(int)",
        "int restore(int)", "long checksum()"
    };

    public static void main(String[] args) {
        stateOfANewObject();
        objectsAreApart();
        face();
        Script.end();
    }

    private static void stateOfANewObject() {
        Script script = new Script("1: a new object").calls("sentences() = 0; clearText() = 0; faultPosition() = 0;"
            + "read() = FAULT; words(0) = BAD_INDEX; restore(0) = NONE; restore(1) = NONE; save(0) = 0; trainAll(1) = 0;"
            + "setSingleRoot(false) = 0; setProjective(false) = 0; setShift(10) = 10");
        for (int headTag = 0; headTag <= 8; headTag++) {
            for (int wordTag = 0; wordTag <= 7; wordTag++) {
                script.calls("tagWeight(" + headTag + "," + wordTag + ") = 0");
            }
        }
        for (int distance = 1; distance <= 6; distance++) {
            script.calls("distanceWeight(0," + distance + ") = 0; distanceWeight(1," + distance + ") = 0");
        }
    }

    private static void objectsAreApart() {
        ArcFactoredParser first = new ArcFactoredParser();
        first.append(65);
        first.setTagWeight(0, 0, 7);
        first.setProjective(true);
        first.save(0);
        ArcFactoredParser second = new ArcFactoredParser();
        Script.check("1: the text of another object is empty", second.clearText() == 0);
        Script.check("1: the weights of another object are 0", second.tagWeight(0, 0) == 0);
        Script.check("1: the settings of another object are off", second.setProjective(false) == 0);
        Script.check("1: the slots of another object are empty", second.restore(0) == ArcFactoredParser.NONE);
    }

    private static void face() {
        Set<String> due = new TreeSet<>(Set.of(FACE));
        Set<String> seen = new TreeSet<>();
        for (Method method : ArcFactoredParser.class.getDeclaredMethods()) {
            if (!Modifier.isPrivate(method.getModifiers()) && !method.isSynthetic()) {
                seen.add(describe(method));
            } else {
                bearsNoPublicName(method);
            }
        }
        for (Class<?> inside : ArcFactoredParser.class.getDeclaredClasses()) {
            Script.check(inside + " is static and not public", Modifier.isStatic(inside.getModifiers())
                && !Modifier.isPublic(inside.getModifiers()) && !Modifier.isProtected(inside.getModifiers()));
            for (Method method : inside.getDeclaredMethods()) {
                bearsNoPublicName(method);
            }
        }
        Script.check("the methods of the face: " + seen + " are " + due, seen.equals(due));
        Script.check("the class is public and final", Modifier.isFinal(ArcFactoredParser.class.getModifiers())
            && Modifier.isPublic(ArcFactoredParser.class.getModifiers()));
        Constructor<?>[] constructors = ArcFactoredParser.class.getDeclaredConstructors();
        Script.check("there is one constructor, without parameters", constructors.length == 1
            && constructors[0].getParameterCount() == 0 && Modifier.isPublic(constructors[0].getModifiers()));
        fields();
    }

    private static void bearsNoPublicName(Method method) {
        for (String name : FACE) {
            Script.check("the method " + method + " bears no public name", !name.contains(" " + method.getName() + "("));
        }
    }

    private static String describe(Method method) {
        StringBuilder text = new StringBuilder(method.getReturnType().getName()).append(' ').append(method.getName());
        text.append('(');
        for (Class<?> type : method.getParameterTypes()) {
            text.append(text.charAt(text.length() - 1) == '(' ? "" : ",").append(type.getName());
        }
        String modifiers = Modifier.isPublic(method.getModifiers()) && !Modifier.isStatic(method.getModifiers())
            ? "" : "not public or static: ";
        return modifiers + text.append(')');
    }

    private static void fields() {
        Set<String> seen = new TreeSet<>();
        for (Field field : ArcFactoredParser.class.getDeclaredFields()) {
            if (!Modifier.isPrivate(field.getModifiers()) && !field.isSynthetic()) {
                seen.add(Modifier.toString(field.getModifiers()) + " " + field.getType() + " " + field.getName());
            }
        }
        String start = "public static final int ";
        Script.check("the constants of the face: " + seen, seen.equals(Set.of(start + "BAD_INDEX", start + "BAD_VALUE",
            start + "FULL", start + "NONE", start + "FAULT")));
        Script.check("the values of the constants", ArcFactoredParser.BAD_INDEX == -1000001
            && ArcFactoredParser.BAD_VALUE == -1000002 && ArcFactoredParser.FULL == -1000003
            && ArcFactoredParser.NONE == -1000004 && ArcFactoredParser.FAULT == -1000005);
    }
}
