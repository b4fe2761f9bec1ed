import com.sun.management.ThreadMXBean;
import java.lang.management.ManagementFactory;

/** All calls of a run share one room, so the calls on an object make no objects. */
public final class RoomTest {
    public static void main(String[] args) {
        ThreadMXBean bean = (ThreadMXBean) ManagementFactory.getThreadMXBean();
        long thread = Thread.currentThread().getId();
        use(new ArcFactoredParser());
        long start = bean.getThreadAllocatedBytes(thread);
        ArcFactoredParser parser = new ArcFactoredParser();
        long made = bean.getThreadAllocatedBytes(thread);
        for (int i = 0; i < 10; i++) {
            use(parser);
        }
        long end = bean.getThreadAllocatedBytes(thread);
        Script.check("a new object takes less than 40000 bytes, not " + (made - start), made - start < 40000);
        Script.check("some 500 calls make nothing, not " + (end - made) + " bytes", end - made < 1000);
        Script.end();
    }

    private static void use(ArcFactoredParser parser) {
        parser.clearText();
        for (int i = 0; i < 13; i++) {
            parser.append("A2B0C2D6E0F5;".charAt(i));
        }
        parser.faultPosition();
        parser.read();
        parser.annotate(0, 1, 0);
        parser.setBias(0, 1, 2, 5);
        parser.constrain(0, 0, 2, 2);
        parser.rankedScore(0, 5);
        parser.rankedHead(0, 5, 2);
        parser.bestScore(0);
        parser.bestHead(0, 1);
        parser.regret(0, 1, 2);
        parser.margin(0);
        parser.correct(0);
        parser.treeCount(0);
        parser.weightSum(0);
        parser.chance(0, 0, 1, true);
        parser.riskHead(0, 1);
        parser.crossings(0);
        parser.depth(0, 1);
        parser.projectiveOrder(0, 0);
        parser.transitions(0);
        parser.transition(0, 0);
        parser.train(0);
        parser.trainAll(10);
        parser.save(0);
        parser.restore(0);
        parser.checksum();
        parser.acceptBest(0);
        parser.remove(0);
    }
}
