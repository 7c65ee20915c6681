import com.sun.management.ThreadMXBean;
import java.lang.management.ManagementFactory;

/** What a run makes: the rows of the constructor, and nothing by any call. */
public final class RoomTest {
    private static final int CALLS = 512;
    private static final Check check = new Check();

    public static void main(String[] args) {
        ThreadMXBean threads = (ThreadMXBean) ManagementFactory.getThreadMXBean();
        allCalls(new PuppetTurns());
        long start = threads.getCurrentThreadAllocatedBytes();
        PuppetTurns stage = new PuppetTurns();
        long made = threads.getCurrentThreadAllocatedBytes();
        allCalls(stage);
        long called = threads.getCurrentThreadAllocatedBytes();
        System.out.println("bytes by the constructor: " + (made - start) + ", by " + CALLS + " calls: " + (called - made));
        check.due("the constructor makes little", made - start < 50_000 ? 1 : 0, 1);
        check.due("calls make nothing", called - made < 1_000 ? 1 : 0, 1);
        check.end();
    }

    private static void allCalls(PuppetTurns stage) {
        int calls = 0;
        for (int puppet = 0; puppet < 20; puppet++, calls++) {
            stage.come(puppet, puppet, 1, puppet & 7, 1);
        }
        stage.setLimit(2);
        stage.setRule(2, 19);
        String play = "5(5(4(f;u3;)))";
        for (int i = 0; i < play.length(); i++, calls++) {
            stage.append(play.charAt(i));
        }
        for (calls += 2; calls + 16 <= CALLS; calls += 16) {
            stage.run();
            stage.bestStep(1);
            stage.allShownIn();
            stage.hiddenIn(5, 60);
            stage.worstLine();
            stage.clash(3);
            stage.count(7);
            stage.frame();
            stage.move(3, 4, 5);
            stage.turn(3, 3);
            stage.lift(4);
            stage.lower(7);
            stage.setRow(1, 2, 3);
            stage.undo();
            stage.dot(12, 12);
            stage.puppet(4, 8);
        }
    }
}
