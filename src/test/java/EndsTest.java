/** Promises 28 to 34: ends, blinds, circuits and their tests. */
public final class EndsTest {
    private static final Checks CHECKS = new Checks();

    public static void main(String[] args) {
        join();
        joinBlindOnes();
        blind();
        addCircuit();
        open();
        canTest();
        canTestByLooks();
        canTestWithoutJoints();
        testAll();
        isTestedUntilParts();
        isTestedUntilSteel();
        isTestedUntilWelds();
        isTestedNeverByWelds();
        isTestedUntilEnds();
        CHECKS.end();
    }

    private static void join() {
        SpoolwrightYard yard = Yards.ofLines(3);
        CHECKS.refused("28: join(3, true, 0, true)", yard, Checks.INDEX, () -> yard.join(3, true, 0, true));
        CHECKS.refused("28: join(0, true, 3, true)", yard, Checks.INDEX, () -> yard.join(0, true, 3, true));
        CHECKS.refused("28: join(-1, true, -1, true)", yard, Checks.INDEX, () -> yard.join(-1, true, -1, true));
        CHECKS.refused("28: join(0, true, 0, false)", yard, Checks.ARGUMENT, () -> yard.join(0, true, 0, false));
        CHECKS.refused("28: join(0, true, 0, true)", yard, Checks.ARGUMENT, () -> yard.join(0, true, 0, true));
        CHECKS.due("28: join(0, true, 1, false)", yard.join(0, true, 1, false), true);
        CHECKS.refused("28: join(0, true, 2, false)", yard, Checks.UNSUPPORTED, () -> yard.join(0, true, 2, false));
        CHECKS.refused("28: join(2, true, 1, false)", yard, Checks.UNSUPPORTED, () -> yard.join(2, true, 1, false));
        CHECKS.refused("28: join(0, true, 1, true)", yard, Checks.UNSUPPORTED, () -> yard.join(0, true, 1, true));
        CHECKS.due("28: join(0, false, 1, true)", yard.join(0, false, 1, true), true);
        CHECKS.due("28: join(1, false, 0, true) parts", yard.join(1, false, 0, true), false);
        CHECKS.due("28: join(0, true, 2, false)", yard.join(0, true, 2, false), true);
        CHECKS.due("28: join(1, true, 0, false) parts", yard.join(1, true, 0, false), false);
        CHECKS.due("28: join(1, false, 2, true)", yard.join(1, false, 2, true), true);
    }

    private static void joinBlindOnes() {
        SpoolwrightYard yard = Yards.ofLines(2);
        yard.blind(0, true, true);
        CHECKS.refused("28: join(0, true, 0, true), blind", yard, Checks.ARGUMENT, () -> yard.join(0, true, 0, true));
        CHECKS.refused("28: join(0, true, 1, true)", yard, Checks.UNSUPPORTED, () -> yard.join(0, true, 1, true));
        CHECKS.refused("28: join(1, true, 0, true)", yard, Checks.UNSUPPORTED, () -> yard.join(1, true, 0, true));
        CHECKS.due("28: join(1, true, 0, false)", yard.join(1, true, 0, false), true);
        yard.blind(0, true, false);
        CHECKS.due("28: join(0, true, 1, false), blind off", yard.join(0, true, 1, false), true);
    }

    private static void blind() {
        SpoolwrightYard yard = Yards.ofLines(2);
        CHECKS.refused("29: blind(2, true, true)", yard, Checks.INDEX, () -> yard.blind(2, true, true));
        CHECKS.refused("29: blind(-1, true, false)", yard, Checks.INDEX, () -> yard.blind(-1, true, false));
        CHECKS.due("29: blind(0, true, false)", yard.blind(0, true, false), false);
        CHECKS.due("29: blind(0, true, true)", yard.blind(0, true, true), false);
        CHECKS.due("29: blind(0, true, true) again", yard.blind(0, true, true), true);
        CHECKS.due("29: blind(0, false, true)", yard.blind(0, false, true), false);
        CHECKS.due("29: blind(1, true, true)", yard.blind(1, true, true), false);
        Yards.addWelded(yard, 0, 2);
        CHECKS.due("29: blind(0, true, false), parts added", yard.blind(0, true, false), true);
        CHECKS.due("29: blind(0, true, false) again", yard.blind(0, true, false), false);
        yard.join(0, true, 1, false);
        CHECKS.refused("29: blind(0, true, true), joined", yard, Checks.UNSUPPORTED, () -> yard.blind(0, true, true));
        CHECKS.refused("29: blind(1, false, true), joined", yard, Checks.UNSUPPORTED, () -> yard.blind(1, false, true));
        CHECKS.due("29: blind(0, true, false), joined", yard.blind(0, true, false), false);
        yard.join(0, true, 1, false);
        CHECKS.due("29: blind(0, true, true), parted", yard.blind(0, true, true), false);
    }

    private static void addCircuit() {
        SpoolwrightYard none = new SpoolwrightYard();
        CHECKS.refused("30: addCircuit(1) without lines", none, Checks.ARGUMENT, () -> none.addCircuit(1));
        SpoolwrightYard yard = Yards.ofLines(2);
        CHECKS.refused("30: addCircuit(0)", yard, Checks.ARGUMENT, () -> yard.addCircuit(0));
        CHECKS.refused("30: addCircuit(-1)", yard, Checks.ARGUMENT, () -> yard.addCircuit(-1));
        CHECKS.refused("30: addCircuit(4)", yard, Checks.ARGUMENT, () -> yard.addCircuit(4));
        CHECKS.refused("30: addCircuit(11)", yard, Checks.ARGUMENT, () -> yard.addCircuit(11));
        CHECKS.refused("30: addCircuit(17)", yard, Checks.ARGUMENT, () -> yard.addCircuit(17));
        CHECKS.due("30: addCircuit(3)", yard.addCircuit(3), 0);
        yard.addLine(1);
        yard.addLine(1);
        CHECKS.refused("30: addCircuit(16)", yard, Checks.ARGUMENT, () -> yard.addCircuit(16));
        CHECKS.due("30: addCircuit(15)", yard.addCircuit(15), 1);
        CHECKS.due("30: addCircuit(15) again", yard.addCircuit(15), 2);
        CHECKS.due("30: addCircuit(8)", yard.addCircuit(8), 3);
        CHECKS.due("30: addCircuit(2)", yard.addCircuit(2), 4);
        CHECKS.due("30: addCircuit(1)", yard.addCircuit(1), 5);
        CHECKS.refused("30: addCircuit(1), a seventh", yard, Checks.STATE, () -> yard.addCircuit(1));
        CHECKS.refused("30: addCircuit(0), a seventh", yard, Checks.ARGUMENT, () -> yard.addCircuit(0));
    }

    private static void open() {
        SpoolwrightYard yard = Yards.ofLines(4);
        yard.addCircuit(3);
        yard.addCircuit(1);
        yard.addCircuit(15);
        CHECKS.due("31: open(0)", yard.open(0), 4);
        CHECKS.due("31: open(2)", yard.open(2), 8);
        yard.join(0, true, 1, false);
        CHECKS.due("31: open(0), joined within", yard.open(0), 2);
        CHECKS.due("31: open(1), joined outside", yard.open(1), 2);
        yard.blind(1, true, true);
        CHECKS.due("31: open(0), a blind", yard.open(0), 1);
        yard.join(0, false, 3, true);
        CHECKS.due("31: open(0), joined outside", yard.open(0), 1);
        CHECKS.due("31: open(2)", yard.open(2), 3);
        CHECKS.refused("31: open(3)", yard, Checks.INDEX, () -> yard.open(3));
        CHECKS.refused("31: open(-1)", yard, Checks.INDEX, () -> yard.open(-1));
    }

    private static void canTest() {
        SpoolwrightYard yard = Yards.ofLines(1);
        Yards.addWelded(yard, 0, 2);
        yard.addCircuit(1);
        yard.look(0, 0, true);
        CHECKS.due("32: canTest(0), open", yard.canTest(0), false);
        yard.blind(0, true, true);
        CHECKS.due("32: canTest(0), half open", yard.canTest(0), false);
        yard.blind(0, false, true);
        CHECKS.due("32: canTest(0)", yard.canTest(0), true);
        yard.addPart(0, 's', 100);
        CHECKS.due("32: canTest(0), a new joint", yard.canTest(0), false);
        yard.give(0, 2, 0);
        yard.weld(0, 1, 0);
        CHECKS.due("32: canTest(0), welded", yard.canTest(0), true);
        yard.setLength(0, 0, 200);
        yard.give(0, 0, 0);
        yard.look(0, 1, true);
        CHECKS.due("32: canTest(0), the first joint new", yard.canTest(0), false);
        yard.weld(0, 0, 0);
        CHECKS.due("32: canTest(0), welded anew", yard.canTest(0), true);
        yard.setLength(0, 2, 200);
        yard.give(0, 2, 0);
        yard.weld(0, 1, 0);
        yard.look(0, 1, false);
        CHECKS.due("32: canTest(0), bad", yard.canTest(0), false);
        CHECKS.refused("32: canTest(1)", yard, Checks.INDEX, () -> yard.canTest(1));
        CHECKS.refused("32: canTest(-1)", yard, Checks.INDEX, () -> yard.canTest(-1));
    }

    private static void canTestByLooks() {
        SpoolwrightYard yard = Yards.ofLines(2);
        Yards.addWelded(yard, 0, 3);
        Yards.addWelded(yard, 1, 2);
        Yards.blindBoth(yard, 0, true);
        Yards.blindBoth(yard, 1, true);
        yard.addCircuit(1);
        yard.addCircuit(3);
        CHECKS.due("32: canTest(0), no look", yard.canTest(0), false);
        yard.look(0, 1, true);
        CHECKS.due("32: canTest(0), looked at", yard.canTest(0), true);
        CHECKS.due("32: canTest(1), one line without looks", yard.canTest(1), false);
        yard.look(1, 0, false);
        yard.repair(1, 0, 0);
        CHECKS.due("32: canTest(1), repaired", yard.canTest(1), false);
        yard.look(1, 0, true);
        CHECKS.due("32: canTest(1), all looked at", yard.canTest(1), true);
        yard.losePaper(0);
        CHECKS.due("32: canTest(1), papers do not matter", yard.canTest(1), true);
    }

    private static void canTestWithoutJoints() {
        SpoolwrightYard yard = Yards.ofLines(2);
        yard.addPart(1, 'v', 0);
        yard.addCircuit(3);
        CHECKS.due("32: canTest(0), open without joints", yard.canTest(0), false);
        yard.join(0, true, 1, false);
        yard.blind(0, false, true);
        yard.blind(1, true, true);
        CHECKS.due("32: canTest(0) without joints", yard.canTest(0), true);
    }

    private static void testAll() {
        SpoolwrightYard yard = Yards.ofTested();
        yard.addLine(1);
        yard.addCircuit(6);
        CHECKS.refused("33: testAll(2)", yard, Checks.INDEX, () -> yard.testAll(2));
        CHECKS.refused("33: testAll(-1)", yard, Checks.INDEX, () -> yard.testAll(-1));
        CHECKS.refused("33: testAll(1)", yard, Checks.UNSUPPORTED, () -> yard.testAll(1));
        CHECKS.due("33: testAll(0) again", yard.testAll(0), 1);
        Yards.blindBoth(yard, 1, true);
        Yards.blindBoth(yard, 2, true);
        CHECKS.due("33: testAll(1)", yard.testAll(1), 3);
        CHECKS.due("33: isTested(2)", yard.isTested(2), true);
        yard.addPart(0, 'v', 0);
        CHECKS.refused("33: testAll(0), a new joint", yard, Checks.UNSUPPORTED, () -> yard.testAll(0));
        CHECKS.due("33: testAll(1), one less", yard.testAll(1), 2);
    }

    private static void isTestedUntilParts() {
        SpoolwrightYard yard = Yards.ofTested();
        CHECKS.due("34: isTested(1)", yard.isTested(1), false);
        CHECKS.refused("34: isTested(2)", yard, Checks.INDEX, () -> yard.isTested(2));
        CHECKS.refused("34: isTested(-1)", yard, Checks.INDEX, () -> yard.isTested(-1));
        yard.addPart(1, 's', 100);
        CHECKS.due("34: isTested(0), a part elsewhere", yard.isTested(0), true);
        yard.addPart(0, 's', 100);
        CHECKS.due("34: isTested(0), a part added", yard.isTested(0), false);
        SpoolwrightYard other = Yards.ofTested();
        other.setLength(0, 0, 200);
        CHECKS.due("34: isTested(0), of another length", other.isTested(0), false);
    }

    private static void isTestedUntilSteel() {
        SpoolwrightYard yard = Yards.ofTested();
        yard.losePaper(0);
        yard.test(0);
        yard.pass(1);
        yard.addLine(1);
        yard.ahead(1, 0);
        CHECKS.due("34: isTested(0), papers and days", yard.isTested(0), true);
        yard.give(0, 2, 1);
        CHECKS.due("34: isTested(0), other steel", yard.isTested(0), false);
        SpoolwrightYard valve = Yards.ofLines(1);
        valve.addPart(0, 'v', 0);
        Yards.blindBoth(valve, 0, true);
        valve.addCircuit(1);
        CHECKS.due("34: testAll(0) of a part without steel", valve.testAll(0), 1);
        valve.give(0, 0, 0);
        CHECKS.due("34: isTested(0), its first steel", valve.isTested(0), false);
    }

    private static void isTestedUntilWelds() {
        SpoolwrightYard yard = Yards.ofTested();
        CHECKS.due("34: look(0, 1, true)", yard.look(0, 1, true), 'g');
        CHECKS.due("34: isTested(0), a good look", yard.isTested(0), true);
        SpoolwrightYard other = Yards.ofTested();
        other.look(0, 1, false);
        CHECKS.due("34: isTested(0), a bad look", other.isTested(0), false);
        other.repair(0, 1, 0);
        other.look(0, 1, true);
        CHECKS.due("34: isTested(0), repaired", other.isTested(0), false);
        CHECKS.due("34: testAll(0) anew", other.testAll(0), 1);
    }

    private static void isTestedNeverByWelds() {
        SpoolwrightYard yard = Yards.ofLines(1);
        Yards.addWelded(yard, 0, 2);
        CHECKS.due("34: isTested(0), welded", yard.isTested(0), false);
        for (int i = 0; i < 2; i++) {
            yard.look(0, 0, false);
            yard.repair(0, 0, 0);
            CHECKS.due("34: isTested(0), repaired alone", yard.isTested(0), false);
        }
        yard.look(0, 0, false);
        yard.cutOut(0, 0);
        CHECKS.due("34: isTested(0), cut out", yard.isTested(0), false);
        yard.weld(0, 0, 0);
        yard.look(0, 0, true);
        CHECKS.due("34: isTested(0), welded and looked at", yard.isTested(0), false);
    }

    private static void isTestedUntilEnds() {
        SpoolwrightYard yard = Yards.ofTested();
        Yards.blindBoth(yard, 1, true);
        yard.addCircuit(2);
        yard.testAll(1);
        yard.blind(0, true, false);
        yard.blind(1, false, false);
        CHECKS.due("34: isTested(0), a blind off", yard.isTested(0), true);
        yard.join(0, true, 1, false);
        CHECKS.due("34: isTested(0), joined", yard.isTested(0), false);
        CHECKS.due("34: isTested(1), joined", yard.isTested(1), false);
        yard.addCircuit(3);
        CHECKS.due("34: testAll(2)", yard.testAll(2), 2);
        yard.join(1, false, 0, true);
        CHECKS.due("34: isTested(0), parted", yard.isTested(0), false);
        CHECKS.due("34: isTested(1), parted", yard.isTested(1), false);
    }
}
