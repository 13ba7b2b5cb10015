import java.util.Set;
import java.util.TreeSet;
import java.util.function.IntConsumer;

/** Checks that stand under the sentence of the document that names the boundary which they look at. */
final class Edges {
    /** The promise number that stands for what is said ahead of the promises. */
    static final int TERMS = 0;

    /** A call for a line, a heat, a welder or a circuit. */
    interface OfOne {
        void call(SpoolwrightYard yard, int number);
    }

    /** A call for a part or a joint of a line. */
    interface OfTwo {
        void call(SpoolwrightYard yard, int line, int number);
    }

    private static final int[] FAR = {-1, 31, 32, 64, 256, 65536, Integer.MIN_VALUE, Integer.MAX_VALUE};

    private final Checks checks = new Checks();
    private final Set<String> said = new TreeSet<>();
    private String sentence = "";

    /** The checks that follow are of the sentence that starts so. */
    void says(int promise, String start) {
        sentence = promise + ": " + start;
        said.add(sentence);
    }

    void due(String call, Object got, Object due) {
        checks.due(sentence + " / " + call, got, due);
    }

    void refused(String call, SpoolwrightYard yard, Class<? extends RuntimeException> due, Checks.Call run) {
        checks.refused(sentence + " / " + call, yard, due, run);
    }

    private void noSuch(String call, SpoolwrightYard yard, int count, IntConsumer run) {
        refused(call + " of " + count, yard, Checks.INDEX, () -> run.accept(count));
        for (int far : FAR) {
            refused(call + " of " + far, yard, Checks.INDEX, () -> run.accept(far));
        }
    }

    private void noSuch(String call, SpoolwrightYard yard, int count, OfOne of) {
        noSuch(call, yard, count, number -> of.call(yard, number));
    }

    /** Lines that are not there are refused in yards without, with some, and with all that can be. */
    void noSuchLine(String call, OfOne of) {
        noSuch(call + " in a new yard", new SpoolwrightYard(), 0, of);
        noSuch(call + " in a yard of two", Yards.ofLines(2), 2, of);
        noSuch(call + " in a full yard", Yards.full(), 4, of);
    }

    private void noSuchInLines(String call, int[] counts, OfTwo of) {
        SpoolwrightYard yard = Yards.ofKinds("ssss", 100, 200, 300, 400);
        yard.addLine(2);
        yard.addPart(1, 's', 100);
        yard.addLine(3);
        for (int i = 0; i < 3; i++) {
            int line = i;
            noSuch(call + " in the line " + line, yard, counts[i], number -> of.call(yard, line, number));
        }
        SpoolwrightYard full = Yards.full();
        noSuch(call + " in a full line", full, counts[3], number -> of.call(full, 3, number));
    }

    /** Parts that are not there are refused in lines with some, with one, without, and with all that can be. */
    void noSuchPart(String call, OfTwo of) {
        noSuchInLines(call, new int[] {4, 1, 0, 10}, of);
    }

    /** Joints that are not there are refused in lines with some, with one part, without, and with all that can be. */
    void noSuchJoint(String call, OfTwo of) {
        noSuchInLines(call, new int[] {3, 0, 0, 9}, of);
    }

    /** Heats that are not there are refused; each yard has the joint 0 of the line 0. */
    void noSuchHeat(String call, OfOne of) {
        noSuch(call + " without heats", Yards.ofLengths(100, 100), 0, of);
        noSuch(call + " with one", Yards.ofClass(1, 2), 1, of);
        noSuch(call + " with all", Yards.full(), 8, of);
    }

    /** Welders that are not there are refused; each yard has the joint 0 of the line 0. */
    void noSuchWelder(String call, OfOne of) {
        noSuch(call + " without welders", Yards.ofLengths(100, 100), 0, of);
        noSuch(call + " with one", Yards.ofClass(1, 2), 1, of);
        noSuch(call + " with all", Yards.full(), 5, of);
    }

    void noSuchCircuit(String call, OfOne of) {
        noSuch(call + " without circuits", Yards.ofLines(2), 0, of);
        noSuch(call + " with one", Yards.ofTested(), 1, of);
        SpoolwrightYard full = Yards.full();
        for (int i = 0; i < 6; i++) {
            full.addCircuit(15);
        }
        noSuch(call + " with all", full, 6, of);
    }

    /** Numbers just outside of low to high, and far outside, are refused. */
    void outOfRange(String call, SpoolwrightYard yard, int low, int high, IntConsumer run) {
        for (int out : new int[] {low - 1, high + 1, -high, Integer.MIN_VALUE, Integer.MAX_VALUE}) {
            refused(call + " with " + out, yard, Checks.ARGUMENT, () -> run.accept(out));
        }
    }

    /** Each sentence of the document that names a boundary is to be among those that were said, and no other. */
    void end(Set<String> due) {
        for (String next : due) {
            boolean isSaid = said.stream().anyMatch(next::startsWith);
            checks.due("a test of \"" + next + "\"", isSaid, true);
        }
        for (String next : said) {
            boolean isDue = due.stream().anyMatch(d -> d.startsWith(next));
            checks.due("the document says \"" + next + "\"", isDue, true);
        }
        checks.end();
    }
}
