/** Promises 1 to 8: a new yard, lines, parts, spools. */
public final class LinesTest {
    private static final Checks CHECKS = new Checks();

    public static void main(String[] args) {
        newYard();
        addLine();
        addPart();
        setLength();
        setLengthUndoes();
        length();
        spoolsByLength();
        spoolsByElbows();
        spoolOf();
        isField();
        CHECKS.end();
    }

    private static void newYard() {
        SpoolwrightYard yard = new SpoolwrightYard();
        CHECKS.due("1: checksum()", yard.checksum(), 7L * 31 * 31);
        CHECKS.due("1: undone()", yard.undone(), 0);
        CHECKS.refused("1: length(0)", yard, Checks.INDEX, () -> yard.length(0));
        CHECKS.refused("1: left(0)", yard, Checks.INDEX, () -> yard.left(0));
        CHECKS.refused("1: failed(0)", yard, Checks.INDEX, () -> yard.failed(0));
        CHECKS.refused("1: open(0)", yard, Checks.INDEX, () -> yard.open(0));
        CHECKS.due("1: pass(1)", yard.pass(1), 1);
        SpoolwrightYard other = new SpoolwrightYard();
        yard.addLine(1);
        CHECKS.refused("1: length(0) of another", other, Checks.INDEX, () -> other.length(0));
    }

    private static void addLine() {
        SpoolwrightYard yard = new SpoolwrightYard();
        CHECKS.refused("2: addLine(0)", yard, Checks.ARGUMENT, () -> yard.addLine(0));
        CHECKS.refused("2: addLine(4)", yard, Checks.ARGUMENT, () -> yard.addLine(4));
        CHECKS.refused("2: addLine(MIN)", yard, Checks.ARGUMENT, () -> yard.addLine(Integer.MIN_VALUE));
        CHECKS.due("2: addLine(3)", yard.addLine(3), 0);
        CHECKS.due("2: addLine(1)", yard.addLine(1), 1);
        CHECKS.due("2: addLine(2)", yard.addLine(2), 2);
        CHECKS.due("2: length(2)", yard.length(2), 0);
        CHECKS.due("2: addLine(1), the last", yard.addLine(1), 3);
        CHECKS.refused("2: addLine(2), one too many", yard, Checks.STATE, () -> yard.addLine(2));
        CHECKS.refused("2: addLine(0), one too many", yard, Checks.ARGUMENT, () -> yard.addLine(0));
    }

    private static void addPart() {
        SpoolwrightYard yard = Yards.ofKinds("");
        CHECKS.refused("3: addPart(-1,..)", yard, Checks.INDEX, () -> yard.addPart(-1, 'z', 0));
        CHECKS.refused("3: addPart(1,..)", yard, Checks.INDEX, () -> yard.addPart(1, 's', 100));
        CHECKS.refused("3: addPart(0, 'z', 100)", yard, Checks.ARGUMENT, () -> yard.addPart(0, 'z', 100));
        CHECKS.refused("3: addPart(0, 's', 99)", yard, Checks.ARGUMENT, () -> yard.addPart(0, 's', 99));
        CHECKS.refused("3: addPart(0, 's', 6001)", yard, Checks.ARGUMENT, () -> yard.addPart(0, 's', 6001));
        CHECKS.due("3: addPart(0, 's', 100)", yard.addPart(0, 's', 100), 0);
        CHECKS.due("3: addPart(0, 's', 6000)", yard.addPart(0, 's', 6000), 1);
        CHECKS.due("3: addPart(0, 'e', -5)", yard.addPart(0, 'e', -5), 2);
        CHECKS.due("3: addPart(0, 'v', 9999)", yard.addPart(0, 'v', 9999), 3);
        CHECKS.due("3: length(0)", yard.length(0), 6700);
        CHECKS.due("3: joint(0, 2)", yard.joint(0, 2), 'n');
        for (int i = 4; i < 10; i++) {
            CHECKS.due("3: addPart(0, 'v', 0)", yard.addPart(0, 'v', 0), i);
        }
        CHECKS.refused("3: addPart(0, 's', 100), an eleventh", yard, Checks.STATE, () -> yard.addPart(0, 's', 100));
        CHECKS.refused("3: addPart(0, 's', 0), an eleventh", yard, Checks.ARGUMENT, () -> yard.addPart(0, 's', 0));
        yard.addLine(1);
        CHECKS.due("3: addPart(1, 's', 100)", yard.addPart(1, 's', 100), 0);
    }

    private static void setLength() {
        SpoolwrightYard yard = Yards.ofKinds("sev", 500, 0, 0);
        CHECKS.refused("4: setLength(1, 0, 99)", yard, Checks.INDEX, () -> yard.setLength(1, 0, 99));
        CHECKS.refused("4: setLength(-1, 0, 200)", yard, Checks.INDEX, () -> yard.setLength(-1, 0, 200));
        CHECKS.refused("4: setLength(0, 3, 99)", yard, Checks.INDEX, () -> yard.setLength(0, 3, 99));
        CHECKS.refused("4: setLength(0, -1, 200)", yard, Checks.INDEX, () -> yard.setLength(0, -1, 200));
        CHECKS.refused("4: setLength(0, 1, 99)", yard, Checks.ARGUMENT, () -> yard.setLength(0, 1, 99));
        CHECKS.refused("4: setLength(0, 0, 6001)", yard, Checks.ARGUMENT, () -> yard.setLength(0, 0, 6001));
        CHECKS.refused("4: setLength(0, 1, 400)", yard, Checks.UNSUPPORTED, () -> yard.setLength(0, 1, 400));
        CHECKS.refused("4: setLength(0, 2, 400)", yard, Checks.UNSUPPORTED, () -> yard.setLength(0, 2, 400));
        CHECKS.refused("4: setLength(0, 0, 500)", yard, Checks.UNSUPPORTED, () -> yard.setLength(0, 0, 500));
        CHECKS.due("4: setLength(0, 0, 6000)", yard.setLength(0, 0, 6000), 500);
        CHECKS.due("4: setLength(0, 0, 100)", yard.setLength(0, 0, 100), 6000);
        CHECKS.due("4: length(0)", yard.length(0), 700);
    }

    private static void setLengthUndoes() {
        SpoolwrightYard yard = Yards.ofKinds("ssss", 100, 200, 300, 400);
        yard.addHeat(0, 1000, true);
        yard.addWelder();
        yard.ticket(0, 0, 0);
        for (int part = 0; part < 4; part++) {
            yard.give(0, part, 0);
        }
        yard.weld(0, 0, 0);
        yard.weld(0, 2, 0);
        CHECKS.due("4: left(0)", yard.left(0), 0);
        CHECKS.due("4: setLength(0, 1, 250)", yard.setLength(0, 1, 250), 200);
        CHECKS.due("4: left(0), 200 back", yard.left(0), 200);
        CHECKS.refused("4: heatOf(0, 1)", yard, Checks.NONE, () -> yard.heatOf(0, 1));
        CHECKS.due("4: undone()", yard.undone(), 1);
        CHECKS.due("4: joint(0, 0)", yard.joint(0, 0), 'n');
        CHECKS.due("4: joint(0, 2)", yard.joint(0, 2), 'w');
        CHECKS.due("4: setLength(0, 1, 260) without steel", yard.setLength(0, 1, 260), 250);
        CHECKS.due("4: left(0), none back", yard.left(0), 200);
        CHECKS.due("4: setLength(0, 3, 100)", yard.setLength(0, 3, 100), 400);
        CHECKS.due("4: undone(), the last joint too", yard.undone(), 2);
        CHECKS.due("4: left(0), 400 back", yard.left(0), 600);
    }

    private static void length() {
        SpoolwrightYard yard = Yards.ofKinds("");
        CHECKS.due("5: length(0) without parts", yard.length(0), 0);
        yard.addPart(0, 's', 6000);
        yard.addPart(0, 'e', 1);
        yard.addPart(0, 's', 123);
        yard.addLine(2);
        yard.addPart(1, 'v', 1);
        CHECKS.due("5: length(0)", yard.length(0), 6423);
        CHECKS.due("5: length(1)", yard.length(1), 300);
        CHECKS.refused("5: length(2)", yard, Checks.INDEX, () -> yard.length(2));
        CHECKS.refused("5: length(-1)", yard, Checks.INDEX, () -> yard.length(-1));
        CHECKS.refused("5: length(MAX)", yard, Checks.INDEX, () -> yard.length(Integer.MAX_VALUE));
    }

    private static void spoolsByLength() {
        SpoolwrightYard yard = Yards.ofKinds("");
        CHECKS.due("6: spools(0) without parts", yard.spools(0), 0);
        yard.addPart(0, 's', 6000);
        CHECKS.due("6: spools(0) of one part", yard.spools(0), 1);
        yard.addPart(0, 's', 6000);
        CHECKS.due("6: spools(0) of 12000", yard.spools(0), 1);
        yard.addPart(0, 's', 100);
        CHECKS.due("6: spools(0) of 12100", yard.spools(0), 2);
        yard.setLength(0, 1, 5901);
        CHECKS.due("6: spools(0) of 12001", yard.spools(0), 2);
        yard.setLength(0, 1, 5900);
        CHECKS.due("6: spools(0) of 12000 again", yard.spools(0), 1);
        CHECKS.refused("6: spools(1)", yard, Checks.INDEX, () -> yard.spools(1));
        CHECKS.refused("6: spools(-1)", yard, Checks.INDEX, () -> yard.spools(-1));
        SpoolwrightYard long10 = Yards.ofKinds("ssssssssss", 6000, 6000, 6000, 6000, 6000, 6000, 6000, 6000, 6000, 6000);
        CHECKS.due("6: spools(0) of 60000", long10.spools(0), 5);
        SpoolwrightYard uneven = Yards.ofKinds("sssss", 5000, 5000, 5000, 5000, 2000);
        CHECKS.due("6: spools(0) of 22000", uneven.spools(0), 2);
    }

    private static void spoolsByElbows() {
        SpoolwrightYard yard = Yards.ofKinds("eeveeve", 0, 0, 0, 0, 0, 0, 0);
        CHECKS.due("6: spools(0) of five elbows", yard.spools(0), 3);
        SpoolwrightYard valves = Yards.ofKinds("vvvvvvvvvv", 0, 0, 0, 0, 0, 0, 0, 0, 0, 0);
        CHECKS.due("6: spools(0) of valves", valves.spools(0), 1);
    }

    private static void spoolOf() {
        SpoolwrightYard yard = Yards.ofKinds("eeveevss", 0, 0, 0, 0, 0, 0, 6000, 5400);
        int[] due = {0, 0, 0, 1, 1, 1, 1, 2};
        for (int part = 0; part < due.length; part++) {
            CHECKS.due("7: spoolOf(0, " + part + ")", yard.spoolOf(0, part), due[part]);
        }
        yard.setLength(0, 7, 5100);
        CHECKS.due("7: spoolOf(0, 7) that just fits", yard.spoolOf(0, 7), 1);
        CHECKS.refused("7: spoolOf(1, 0)", yard, Checks.INDEX, () -> yard.spoolOf(1, 0));
        CHECKS.refused("7: spoolOf(0, 8)", yard, Checks.INDEX, () -> yard.spoolOf(0, 8));
        CHECKS.refused("7: spoolOf(0, -1)", yard, Checks.INDEX, () -> yard.spoolOf(0, -1));
    }

    private static void isField() {
        SpoolwrightYard yard = Yards.ofKinds("eeveevss", 0, 0, 0, 0, 0, 0, 6000, 5400);
        boolean[] due = {false, false, true, false, false, false, true};
        for (int joint = 0; joint < due.length; joint++) {
            CHECKS.due("8: isField(0, " + joint + ")", yard.isField(0, joint), due[joint]);
        }
        CHECKS.refused("8: isField(1, 0)", yard, Checks.INDEX, () -> yard.isField(1, 0));
        CHECKS.refused("8: isField(0, 7)", yard, Checks.INDEX, () -> yard.isField(0, 7));
        CHECKS.refused("8: isField(0, -1)", yard, Checks.INDEX, () -> yard.isField(0, -1));
        SpoolwrightYard one = Yards.ofKinds("s", 100);
        CHECKS.refused("8: isField(0, 0) of one part", one, Checks.INDEX, () -> one.isField(0, 0));
    }
}
