import java.util.function.Supplier;

/**
 * All that a yard tells of itself, as one text. Views of a yard go beyond the 512 calls that the document promises,
 * which is safe here because the class counts no calls.
 */
final class View {
    private static final int MOST_LINES = 4;
    private static final int MOST_PARTS = 10;
    private static final int MOST_HEATS = 8;
    private static final int MOST_WELDERS = 5;
    private static final int MOST_CIRCUITS = 6;
    private static final int ALLOYS = 4;
    private static final char[] LACKS = {'s', 'p', 'w', 'b', 'l', 't', 'i'};

    private final StringBuilder text = new StringBuilder();

    static String of(SpoolwrightYard yard) {
        View view = new View();
        for (int line = 0; line < MOST_LINES; line++) {
            view.addLine(yard, line);
        }
        view.addOthers(yard);
        return view.text.toString();
    }

    private void add(Supplier<Object> answer) {
        try {
            text.append(answer.get());
        } catch (RuntimeException e) {
            text.append(e.getClass().getSimpleName());
        }
        text.append(' ');
    }

    private void addLine(SpoolwrightYard yard, int line) {
        add(() -> yard.length(line));
        add(() -> yard.spools(line));
        add(() -> yard.toLook(line));
        add(() -> yard.isTested(line));
        add(() -> yard.isReady(line));
        add(() -> yard.meanSpool(line));
        for (int i = 0; i < MOST_PARTS; i++) {
            int part = i;
            add(() -> yard.spoolOf(line, part));
            add(() -> yard.heatOf(line, part));
            for (int alloy = 0; alloy < ALLOYS; alloy++) {
                int wanted = alloy;
                add(() -> yard.bestHeat(line, part, wanted));
            }
            addJoint(yard, line, part);
        }
        text.append('\n');
    }

    private void addJoint(SpoolwrightYard yard, int line, int joint) {
        add(() -> yard.isField(line, joint));
        add(() -> yard.joint(line, joint));
        add(() -> yard.welderOf(line, joint));
        add(() -> yard.lack(line, joint));
        for (int i = 0; i < MOST_WELDERS; i++) {
            int welder = i;
            add(() -> yard.mayWeld(line, joint, welder));
        }
    }

    private void addOthers(SpoolwrightYard yard) {
        for (int i = 0; i < MOST_HEATS; i++) {
            int heat = i;
            add(() -> yard.left(heat));
        }
        for (int i = 0; i < MOST_WELDERS; i++) {
            int welder = i;
            add(() -> yard.failed(welder));
        }
        for (int i = 0; i < MOST_CIRCUITS; i++) {
            int circuit = i;
            add(() -> yard.open(circuit));
            add(() -> yard.canTest(circuit));
        }
        for (int i = 0; i < MOST_LINES; i++) {
            int index = i;
            add(() -> yard.turnover(index));
        }
        for (char kind : LACKS) {
            add(() -> yard.lacks(kind));
        }
        add(yard::undone);
        add(yard::checksum);
        add(yard::doneShare);
        add(yard::isSound);
    }
}
