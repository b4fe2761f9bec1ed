/** The four examples of the document, word for word. */
public final class ExamplesTest {
    public static void main(String[] args) {
        new Script("example 1").calls("append(65) = 1; append(50) = 2; append(66) = 3; append(48) = 4; append(59) = 5;"
            + "read() = 1; treeCount(0) = 3; setTagWeight(8, 1, 5) = 0; bestScore(0) = 5; bestHead(0, 1) = 0;"
            + "setSingleRoot(true) = 0; treeCount(0) = 2; chance(0, 0, 2, false) = 3; chance(0, 0, 2, true) = 5;"
            + "bestHead(0, 3) = -1000001");
        new Script("example 2").calls("append(65) = 1; append(48) = 2; append(65) = 3; append(49) = 4; append(65) = 5;"
            + "append(49) = 6; append(59) = 7; read() = 1; bestHead(0, 3) = 0; rankedScore(0, 1) = 0;"
            + "regret(0, 1, 2) = 0; margin(0) = 0; constrain(0, 1, 2, 2) = 0; regret(0, 1, 2) = -1000004;"
            + "weightSum(0) = 12000; bestScore(1) = -1000001");
        new Script("example 3").calls("append(65) = 1; append(48) = 2; append(65) = 3; append(50) = 4; append(59) = 5;"
            + "faultPosition() = 3; read() = -1000005; clearText() = 5; append(65) = 1; append(51) = 2; append(65) = 3;"
            + "append(48) = 4; append(59) = 5; faultPosition() = 4; clearText() = 5; faultPosition() = 0");
        new Script("example 4").calls("append(65) = 1; append(51) = 2; append(65) = 3; append(48) = 4; append(65) = 5;"
            + "append(50) = 6; append(59) = 7; read() = 1; projectiveOrder(0, 0) = 2; transitions(0) = 8;"
            + "transition(0, 2) = 3; transition(0, 3) = 0; depth(0, 1) = 3; crossings(0) = 1;"
            + "annotate(0, 2, 1) = -1000002; annotate(0, 2, 2) = -1000001");
        Script.end();
    }
}
