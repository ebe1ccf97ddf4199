import com.sun.management.ThreadMXBean;
import java.lang.management.ManagementFactory;

/** All calls of one run live in one room, so what a run makes is kept small. */
final class RoomTest {
    private static final ThreadMXBean THREADS = (ThreadMXBean) ManagementFactory.getThreadMXBean();
    // The room has some 600,000 objects and 7.3 million fields: a run is to stay far below.
    private static final long RUN_BYTES = 300000;

    public static void main(String[] args) {
        String document = "[" + "{\"a\":1},".repeat(12) + "[1,2,3]]";
        String query = "$[?$[?count($[?@.a==$[1].a||@>'a'])!=count($..*)&&!length(@)<2]||@[?@==$]]";
        small("a new object", () -> new TreePaths());
        small("finds", () -> repeat(300, with(document, query)::find));
        small("values that are written", () -> with("1", "$[?" + "1<1||".repeat(30) + "1<1]"));
        small("strings", () -> with("[" + "\"\",".repeat(38) + "\"\"]", "$['']['']"));
        small("documents of one value", () -> {
            TreePaths paths = new TreePaths();
            repeat(250, () -> {
                type(paths, "1");
                paths.document();
            });
        });
        small("paths", () -> {
            TreePaths paths = with("{\"a\":{\"b\":[1,2,[3]]}}", "$");
            repeat(480, () -> paths.path(6, 5));
        });
        small("texts", () -> {
            TreePaths paths = with("{\"a\":{\"b\":[1,2,[3]]}}", "$");
            repeat(480, () -> paths.text(0, 12));
        });
        Session.end();
    }

    private static void type(TreePaths paths, String text) {
        for (int i = 0; i < text.length(); i++) {
            paths.type(text.charAt(i));
        }
    }

    private static TreePaths with(String document, String query) {
        TreePaths paths = new TreePaths();
        type(paths, document);
        paths.document();
        type(paths, query);
        paths.query();
        return paths;
    }

    private static void repeat(int times, Runnable call) {
        for (int i = 0; i < times; i++) {
            call.run();
        }
    }

    private static void small(String what, Runnable run) {
        // Once before, so that what Java itself makes for the first run isn't counted.
        run.run();
        long before = THREADS.getCurrentThreadAllocatedBytes();
        run.run();
        long bytes = THREADS.getCurrentThreadAllocatedBytes() - before;
        System.out.println(what + ": " + bytes + " bytes");
        Session.due(what + " made few bytes", bytes < RUN_BYTES ? 1 : 0, 1);
    }
}
