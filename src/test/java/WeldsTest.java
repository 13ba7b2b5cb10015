/** Promises 16 to 27: welders, tickets, welds, looks, repairs, days. */
public final class WeldsTest {
    private static final Checks CHECKS = new Checks();

    public static void main(String[] args) {
        addWelder();
        ticket();
        mayWeld();
        weld();
        look();
        repair();
        cutOut();
        joint();
        welderOf();
        toLookByClass();
        toLookBehindBadOnes();
        failed();
        pass();
        CHECKS.end();
    }

    private static void addWelder() {
        SpoolwrightYard yard = new SpoolwrightYard();
        for (int i = 0; i < 5; i++) {
            CHECKS.due("16: addWelder()", yard.addWelder(), i);
        }
        CHECKS.refused("16: addWelder(), a sixth", yard, Checks.STATE, yard::addWelder);
        for (int alloy = 0; alloy < 4; alloy++) {
            CHECKS.due("16: ticket(4, " + alloy + ", 0)", yard.ticket(4, alloy, 0), -1);
        }
    }

    private static void ticket() {
        SpoolwrightYard yard = Yards.ofClass(1, 2);
        yard.addWelder();
        CHECKS.refused("17: ticket(2, 0, 0)", yard, Checks.INDEX, () -> yard.ticket(2, 0, 0));
        CHECKS.refused("17: ticket(-1, 9, 0)", yard, Checks.INDEX, () -> yard.ticket(-1, 9, 0));
        CHECKS.refused("17: ticket(1, 4, 0)", yard, Checks.ARGUMENT, () -> yard.ticket(1, 4, 0));
        CHECKS.refused("17: ticket(1, -1, 0)", yard, Checks.ARGUMENT, () -> yard.ticket(1, -1, 0));
        CHECKS.refused("17: ticket(1, 0, -1)", yard, Checks.ARGUMENT, () -> yard.ticket(1, 0, -1));
        CHECKS.refused("17: ticket(1, 0, 1000)", yard, Checks.ARGUMENT, () -> yard.ticket(1, 0, 1000));
        CHECKS.due("17: ticket(1, 3, 999)", yard.ticket(1, 3, 999), -1);
        CHECKS.due("17: ticket(1, 0, 5)", yard.ticket(1, 0, 5), -1);
        CHECKS.due("17: ticket(1, 0, 0), a shorter one", yard.ticket(1, 0, 0), 5);
        CHECKS.due("17: ticket(1, 0, 7)", yard.ticket(1, 0, 7), 0);
        CHECKS.due("17: ticket(1, 3, 1)", yard.ticket(1, 3, 1), 999);
        CHECKS.due("17: ticket(0, 0, 9)", yard.ticket(0, 0, 9), 10);
    }

    private static void mayWeld() {
        SpoolwrightYard yard = Yards.ofClass(1, 2);
        yard.addPart(0, 's', 100);
        yard.addHeat(1, 1000, true);
        yard.addHeat(0, 1000, false);
        yard.addWelder();
        yard.ticket(1, 1, 0);
        CHECKS.due("18: mayWeld(0, 0, 0)", yard.mayWeld(0, 0, 0), true);
        CHECKS.due("18: mayWeld(0, 0, 1) for another alloy", yard.mayWeld(0, 0, 1), false);
        CHECKS.due("18: mayWeld(0, 1, 0) without steel", yard.mayWeld(0, 1, 0), false);
        yard.give(0, 2, 1);
        CHECKS.due("18: mayWeld(0, 1, 0) of two alloys", yard.mayWeld(0, 1, 0), false);
        CHECKS.due("18: mayWeld(0, 1, 1) of two alloys", yard.mayWeld(0, 1, 1), false);
        yard.give(0, 2, 2);
        CHECKS.due("18: mayWeld(0, 1, 0) of two heats, one without paper", yard.mayWeld(0, 1, 0), true);
        yard.weld(0, 0, 0);
        CHECKS.due("18: mayWeld(0, 0, 0) of a welded one", yard.mayWeld(0, 0, 0), true);
        yard.pass(10);
        CHECKS.due("18: mayWeld(0, 0, 0) on the last day", yard.mayWeld(0, 0, 0), true);
        yard.pass(1);
        CHECKS.due("18: mayWeld(0, 0, 0) a day late", yard.mayWeld(0, 0, 0), false);
        CHECKS.refused("18: mayWeld(1, 0, 0)", yard, Checks.INDEX, () -> yard.mayWeld(1, 0, 0));
        CHECKS.refused("18: mayWeld(0, 2, 0)", yard, Checks.INDEX, () -> yard.mayWeld(0, 2, 0));
        CHECKS.refused("18: mayWeld(0, -1, 0)", yard, Checks.INDEX, () -> yard.mayWeld(0, -1, 0));
        CHECKS.refused("18: mayWeld(0, 0, 2)", yard, Checks.INDEX, () -> yard.mayWeld(0, 0, 2));
        CHECKS.refused("18: mayWeld(0, 0, -1)", yard, Checks.INDEX, () -> yard.mayWeld(0, 0, -1));
    }

    private static void weld() {
        SpoolwrightYard yard = Yards.ofClass(1, 4);
        yard.addWelder();
        CHECKS.refused("19: weld(1, 0, 0)", yard, Checks.INDEX, () -> yard.weld(1, 0, 0));
        CHECKS.refused("19: weld(0, 3, 0)", yard, Checks.INDEX, () -> yard.weld(0, 3, 0));
        CHECKS.refused("19: weld(0, 0, 2)", yard, Checks.INDEX, () -> yard.weld(0, 0, 2));
        CHECKS.refused("19: weld(0, 0, 1) without a ticket", yard, Checks.UNSUPPORTED, () -> yard.weld(0, 0, 1));
        CHECKS.due("19: weld(0, 0, 0)", yard.weld(0, 0, 0), 1);
        CHECKS.due("19: joint(0, 0)", yard.joint(0, 0), 'w');
        CHECKS.refused("19: weld(0, 0, 0) again", yard, Checks.UNSUPPORTED, () -> yard.weld(0, 0, 0));
        CHECKS.refused("19: weld(0, 0, 2) again", yard, Checks.INDEX, () -> yard.weld(0, 0, 2));
        yard.look(0, 0, false);
        CHECKS.refused("19: weld(0, 0, 0) of a bad one", yard, Checks.UNSUPPORTED, () -> yard.weld(0, 0, 0));
        CHECKS.due("19: weld(0, 2, 0)", yard.weld(0, 2, 0), 2);
        yard.look(0, 2, true);
        CHECKS.refused("19: weld(0, 2, 0) of a good one", yard, Checks.UNSUPPORTED, () -> yard.weld(0, 2, 0));
        yard.pass(10);
        CHECKS.due("19: weld(0, 1, 0) on the last day", yard.weld(0, 1, 0), 3);
    }

    private static void look() {
        SpoolwrightYard yard = Yards.ofClass(1, 3);
        CHECKS.refused("20: look(0, 0, true) of a new one", yard, Checks.UNSUPPORTED, () -> yard.look(0, 0, true));
        yard.weld(0, 0, 0);
        yard.weld(0, 1, 0);
        CHECKS.due("20: look(0, 0, true)", yard.look(0, 0, true), 'g');
        CHECKS.due("20: look(0, 1, false)", yard.look(0, 1, false), 'b');
        CHECKS.due("20: joint(0, 0)", yard.joint(0, 0), 'g');
        CHECKS.due("20: joint(0, 1)", yard.joint(0, 1), 'b');
        CHECKS.refused("20: look(0, 0, false) of a good one", yard, Checks.UNSUPPORTED, () -> yard.look(0, 0, false));
        CHECKS.refused("20: look(0, 1, true) of a bad one", yard, Checks.UNSUPPORTED, () -> yard.look(0, 1, true));
        CHECKS.refused("20: look(0, 2, true)", yard, Checks.INDEX, () -> yard.look(0, 2, true));
        CHECKS.refused("20: look(0, -1, true)", yard, Checks.INDEX, () -> yard.look(0, -1, true));
        CHECKS.refused("20: look(1, 0, true)", yard, Checks.INDEX, () -> yard.look(1, 0, true));
        yard.repair(0, 1, 0);
        CHECKS.due("20: look(0, 1, true) of a repaired one", yard.look(0, 1, true), 'g');
    }

    private static void repair() {
        SpoolwrightYard yard = Yards.ofClass(1, 3);
        yard.addWelder();
        CHECKS.refused("21: repair(0, 0, 0), new", yard, Checks.UNSUPPORTED, () -> yard.repair(0, 0, 0));
        yard.weld(0, 0, 0);
        CHECKS.refused("21: repair(0, 0, 0), welded", yard, Checks.UNSUPPORTED, () -> yard.repair(0, 0, 0));
        yard.look(0, 0, false);
        CHECKS.refused("21: repair(0, 0, 1), no ticket", yard, Checks.UNSUPPORTED, () -> yard.repair(0, 0, 1));
        CHECKS.refused("21: repair(0, 0, 2)", yard, Checks.INDEX, () -> yard.repair(0, 0, 2));
        CHECKS.refused("21: repair(0, 2, 0)", yard, Checks.INDEX, () -> yard.repair(0, 2, 0));
        CHECKS.refused("21: repair(1, 0, 0)", yard, Checks.INDEX, () -> yard.repair(1, 0, 0));
        CHECKS.due("21: repair(0, 0, 0)", yard.repair(0, 0, 0), 1);
        CHECKS.due("21: joint(0, 0)", yard.joint(0, 0), 'w');
        CHECKS.refused("21: repair(0, 0, 0), not bad", yard, Checks.UNSUPPORTED, () -> yard.repair(0, 0, 0));
        yard.look(0, 0, false);
        CHECKS.due("21: repair(0, 0, 0), the second", yard.repair(0, 0, 0), 2);
        yard.look(0, 0, false);
        CHECKS.refused("21: repair(0, 0, 0), a third", yard, Checks.UNSUPPORTED, () -> yard.repair(0, 0, 0));
        Yards.weldAndLook(yard, 1, false);
        yard.pass(11);
        CHECKS.refused("21: repair(0, 1, 0), late", yard, Checks.UNSUPPORTED, () -> yard.repair(0, 1, 0));
    }

    private static void cutOut() {
        SpoolwrightYard yard = Yards.ofClass(1, 3);
        CHECKS.refused("22: cutOut(0, 0), new", yard, Checks.UNSUPPORTED, () -> yard.cutOut(0, 0));
        Yards.weldAndLook(yard, 0, false);
        CHECKS.refused("22: cutOut(0, 0), no repair", yard, Checks.UNSUPPORTED, () -> yard.cutOut(0, 0));
        Yards.repairAndFail(yard, 0);
        CHECKS.refused("22: cutOut(0, 0), one repair", yard, Checks.UNSUPPORTED, () -> yard.cutOut(0, 0));
        yard.repair(0, 0, 0);
        CHECKS.refused("22: cutOut(0, 0), not bad", yard, Checks.UNSUPPORTED, () -> yard.cutOut(0, 0));
        yard.look(0, 0, false);
        CHECKS.refused("22: cutOut(0, 2)", yard, Checks.INDEX, () -> yard.cutOut(0, 2));
        CHECKS.refused("22: cutOut(0, -1)", yard, Checks.INDEX, () -> yard.cutOut(0, -1));
        CHECKS.refused("22: cutOut(1, 0)", yard, Checks.INDEX, () -> yard.cutOut(1, 0));
        CHECKS.due("22: cutOut(0, 0)", yard.cutOut(0, 0), 1);
        CHECKS.due("22: joint(0, 0)", yard.joint(0, 0), 'n');
        CHECKS.due("22: undone()", yard.undone(), 0);
        Yards.weldAndLook(yard, 0, false);
        CHECKS.due("22: repair(0, 0, 0) anew", yard.repair(0, 0, 0), 1);
        Yards.weldAndLook(yard, 1, false);
        Yards.repairAndFail(yard, 1);
        Yards.repairAndFail(yard, 1);
        CHECKS.due("22: cutOut(0, 1), the second of all", yard.cutOut(0, 1), 2);
    }

    private static void joint() {
        SpoolwrightYard yard = Yards.ofClass(1, 3);
        CHECKS.due("23: joint(0, 0)", yard.joint(0, 0), 'n');
        yard.weld(0, 0, 0);
        CHECKS.due("23: joint(0, 0) welded", yard.joint(0, 0), 'w');
        CHECKS.due("23: joint(0, 1)", yard.joint(0, 1), 'n');
        yard.look(0, 0, true);
        CHECKS.due("23: joint(0, 0) good", yard.joint(0, 0), 'g');
        Yards.weldAndLook(yard, 1, false);
        CHECKS.due("23: joint(0, 1) bad", yard.joint(0, 1), 'b');
        yard.setLength(0, 0, 200);
        CHECKS.due("23: joint(0, 0) undone", yard.joint(0, 0), 'n');
        CHECKS.refused("23: joint(0, 2)", yard, Checks.INDEX, () -> yard.joint(0, 2));
        CHECKS.refused("23: joint(0, -1)", yard, Checks.INDEX, () -> yard.joint(0, -1));
        CHECKS.refused("23: joint(-1, 0)", yard, Checks.INDEX, () -> yard.joint(-1, 0));
        yard.addLine(1);
        CHECKS.refused("23: joint(1, 0) without parts", yard, Checks.INDEX, () -> yard.joint(1, 0));
        CHECKS.refused("23: joint(1, -1) without parts", yard, Checks.INDEX, () -> yard.joint(1, -1));
    }

    private static void welderOf() {
        SpoolwrightYard yard = Yards.ofClass(1, 3);
        yard.addWelder();
        yard.ticket(1, 0, 0);
        CHECKS.refused("24: welderOf(0, 0), new", yard, Checks.NONE, () -> yard.welderOf(0, 0));
        yard.weld(0, 0, 1);
        CHECKS.due("24: welderOf(0, 0)", yard.welderOf(0, 0), 1);
        yard.look(0, 0, false);
        CHECKS.due("24: welderOf(0, 0), bad", yard.welderOf(0, 0), 1);
        yard.repair(0, 0, 0);
        CHECKS.due("24: welderOf(0, 0), repaired", yard.welderOf(0, 0), 0);
        yard.look(0, 0, false);
        Yards.repairAndFail(yard, 0);
        yard.cutOut(0, 0);
        CHECKS.refused("24: welderOf(0, 0), cut out", yard, Checks.NONE, () -> yard.welderOf(0, 0));
        yard.weld(0, 1, 0);
        yard.setLength(0, 2, 200);
        CHECKS.refused("24: welderOf(0, 1), undone", yard, Checks.NONE, () -> yard.welderOf(0, 1));
        CHECKS.refused("24: welderOf(0, 2)", yard, Checks.INDEX, () -> yard.welderOf(0, 2));
        CHECKS.refused("24: welderOf(1, 0)", yard, Checks.INDEX, () -> yard.welderOf(1, 0));
    }

    private static void toLookByClass() {
        int[][] due = {{0, 0, 1, 1, 1, 1, 1, 1, 1, 1, 1}, {0, 0, 1, 1, 1, 1, 1, 2, 2, 2, 2},
            {0, 0, 1, 2, 3, 4, 5, 6, 7, 8, 9}};
        for (int grade = 1; grade <= 3; grade++) {
            for (int parts = 0; parts <= 10; parts++) {
                int got = Yards.ofClass(grade, parts).toLook(0);
                CHECKS.due("25: toLook of class " + grade + " with " + parts + " parts", got, due[grade - 1][parts]);
            }
        }
        SpoolwrightYard yard = Yards.ofClass(2, 10);
        Yards.weldAndLook(yard, 0, true);
        CHECKS.due("25: toLook(0) behind a good look", yard.toLook(0), 1);
        Yards.weldAndLook(yard, 1, true);
        Yards.weldAndLook(yard, 2, true);
        CHECKS.due("25: toLook(0) behind more than are due", yard.toLook(0), 0);
        CHECKS.refused("25: toLook(1)", yard, Checks.INDEX, () -> yard.toLook(1));
        CHECKS.refused("25: toLook(-1)", yard, Checks.INDEX, () -> yard.toLook(-1));
    }

    private static void toLookBehindBadOnes() {
        SpoolwrightYard yard = Yards.ofClass(1, 6);
        Yards.weldAndLook(yard, 0, false);
        CHECKS.due("25: toLook(0), 3 due, a bad one looked at", yard.toLook(0), 2);
        yard.repair(0, 0, 0);
        CHECKS.due("25: toLook(0) as it is repaired", yard.toLook(0), 3);
        yard.look(0, 0, true);
        CHECKS.due("25: toLook(0) as it is good", yard.toLook(0), 2);
        Yards.weldAndLook(yard, 1, false);
        CHECKS.due("25: toLook(0), 5 due, 2 looked at", yard.toLook(0), 3);
        Yards.repairAndFail(yard, 1);
        CHECKS.due("25: toLook(0), all due", yard.toLook(0), 3);
        Yards.repairAndFail(yard, 1);
        yard.cutOut(0, 1);
        CHECKS.due("25: toLook(0) behind the cut", yard.toLook(0), 4);
        yard.setLength(0, 0, 200);
        CHECKS.due("25: toLook(0), bad looks count on", yard.toLook(0), 5);
        yard.addLine(1);
        yard.addPart(1, 'v', 0);
        yard.addPart(1, 'v', 0);
        yard.addPart(1, 'v', 0);
        CHECKS.due("25: toLook(1), of its own looks alone", yard.toLook(1), 1);
    }

    private static void failed() {
        SpoolwrightYard yard = Yards.ofClass(1, 4);
        yard.addWelder();
        yard.ticket(1, 0, 0);
        CHECKS.due("26: failed(0)", yard.failed(0), 0);
        yard.weld(0, 0, 1);
        yard.look(0, 0, false);
        CHECKS.due("26: failed(1)", yard.failed(1), 1);
        CHECKS.due("26: failed(0), not his", yard.failed(0), 0);
        Yards.repairAndFail(yard, 0);
        CHECKS.due("26: failed(0), his repair", yard.failed(0), 1);
        CHECKS.due("26: failed(1), not again", yard.failed(1), 1);
        Yards.repairAndFail(yard, 0);
        yard.cutOut(0, 0);
        Yards.weldAndLook(yard, 1, true);
        CHECKS.due("26: failed(0) behind the cut and a good one", yard.failed(0), 2);
        yard.setLength(0, 0, 500);
        CHECKS.due("26: failed(1) behind a change", yard.failed(1), 1);
        CHECKS.refused("26: failed(2)", yard, Checks.INDEX, () -> yard.failed(2));
        CHECKS.refused("26: failed(-1)", yard, Checks.INDEX, () -> yard.failed(-1));
    }

    private static void pass() {
        SpoolwrightYard yard = new SpoolwrightYard();
        CHECKS.refused("27: pass(0)", yard, Checks.ARGUMENT, () -> yard.pass(0));
        CHECKS.refused("27: pass(-1)", yard, Checks.ARGUMENT, () -> yard.pass(-1));
        CHECKS.refused("27: pass(100)", yard, Checks.ARGUMENT, () -> yard.pass(100));
        for (int i = 1; i <= 10; i++) {
            CHECKS.due("27: pass(99)", yard.pass(99), 99 * i);
        }
        CHECKS.refused("27: pass(10) above 999", yard, Checks.STATE, () -> yard.pass(10));
        CHECKS.refused("27: pass(100) above 999", yard, Checks.ARGUMENT, () -> yard.pass(100));
        CHECKS.due("27: pass(9)", yard.pass(9), 999);
        CHECKS.refused("27: pass(1) above 999", yard, Checks.STATE, () -> yard.pass(1));
    }
}
