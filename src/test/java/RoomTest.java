import com.sun.management.ThreadMXBean;
import java.lang.management.ManagementFactory;

/** All calls of a run live in one room: the dearest ones make nothing but what the rows need. */
public final class RoomTest {
    private static final ThreadMXBean threads =
            (ThreadMXBean) ManagementFactory.getThreadMXBean();
    /** Far below the room's 7.3 million elements, and above the rows of one object. */
    private static final long MOST_BYTES = 200_000;

    public static void main(String[] args) {
        StringBuilder schema = new StringBuilder("{\"items\":{\"allof\":[false");
        for (int k = 1; k < 22; k++) {
            schema.append(",false");
        }
        schema.append("]}}");
        String[] documents = {"[" + "1,".repeat(38) + "1]", "{}"};
        boolean failed = false;
        for (String document : documents) {
            run(schema.toString(), document);
            long before = threads.getCurrentThreadAllocatedBytes();
            run(schema.toString(), document);
            long made = threads.getCurrentThreadAllocatedBytes() - before;
            if (made > MOST_BYTES) {
                failed = true;
                System.out.println("a run for " + document + " made " + made + " bytes");
            }
        }
        System.exit(failed ? 1 : 0);
    }

    private static void run(String schema, String document) {
        SchemaDesk desk = Check.desk(schema, document);
        boolean object = document.startsWith("{");
        for (int calls = schema.length() + document.length(); calls + 4 <= 512; calls += 4) {
            desk.remove(0, schema.length() - 1, 1);
            desk.type(0, '}');
            desk.judge();
            if (object) {
                desk.propose(0);
            } else {
                desk.holds(0, 0);
            }
        }
    }
}
