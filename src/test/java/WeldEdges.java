/** The boundaries of welders, welds, looks and days: promises 16 to 27, and what the terms say of them. */
final class WeldEdges {
    private final Edges edges;

    WeldEdges(Edges edges) {
        this.edges = edges;
    }

    void run() {
        welders();
        addWelder();
        ticket();
        ticketRefused();
        mayWeld();
        welds();
        weld();
        weldRefused();
        looksAndRepairs();
        look();
        repair();
        repairRefused();
        cutOut();
        joint();
        welderOf();
        looksByClass();
        looksBehindBadOnes();
        lookedAt();
        toLook();
        failed();
        pass();
    }

    /** The yard has one line of two parts, with steel, and a welder. */
    private void dueAfter(SpoolwrightYard yard, int lastDay) {
        edges.due("mayWeld(0, 0, 0) on the day " + lastDay, yard.mayWeld(0, 0, 0), true);
        yard.pass(1);
        edges.due("mayWeld(0, 0, 0) a day later", yard.mayWeld(0, 0, 0), false);
        edges.refused("weld(0, 0, 0) a day later", yard, Checks.UNSUPPORTED, () -> yard.weld(0, 0, 0));
    }

    private void welders() {
        edges.says(Edges.TERMS, "At most 5 welders are numbered from 0, with at most one ticket for each alloy, each good"
            + " up to a day, that one too.");
        SpoolwrightYard yard = Yards.ofClass(1, 2);
        for (int i = 1; i < 5; i++) {
            edges.due("addWelder()", yard.addWelder(), i);
            edges.due("mayWeld(0, 0, " + i + ")", yard.mayWeld(0, 0, i), false);
        }
        edges.due("ticket(0, 0, 0), in place of the first", yard.ticket(0, 0, 0), 10);
        dueAfter(yard, 0);
        yard.ticket(0, 0, 3);
        yard.ticket(0, 1, 999);
        yard.pass(2);
        dueAfter(yard, 3);
        SpoolwrightYard old = Yards.ofClass(1, 2);
        old.ticket(0, 0, 999);
        for (int i = 0; i < 10; i++) {
            old.pass(99);
        }
        old.pass(9);
        edges.due("mayWeld(0, 0, 0) on the last day of all", old.mayWeld(0, 0, 0), true);
        old.ticket(0, 0, 998);
        edges.due("mayWeld(0, 0, 0), a day too short", old.mayWeld(0, 0, 0), false);
    }

    private void addWelder() {
        edges.says(16, "Adds a welder without tickets.");
        SpoolwrightYard yard = Yards.ofClass(1, 2);
        yard.addWelder();
        edges.due("mayWeld(0, 0, 1)", yard.mayWeld(0, 0, 1), false);
        edges.says(17, "Returns the day of the one before, -1 without.");
        for (int alloy = 0; alloy < 4; alloy++) {
            edges.due("ticket(1, " + alloy + ", 0)", yard.ticket(1, alloy, 0), -1);
            edges.due("ticket(1, " + alloy + ", 0) again", yard.ticket(1, alloy, 0), 0);
        }
        edges.says(16, "Throws `IllegalStateException` if there are 5");
        yard.addWelder();
        yard.addWelder();
        edges.due("addWelder(), the fifth", yard.addWelder(), 4);
        edges.refused("addWelder(), a sixth", yard, Checks.STATE, yard::addWelder);
    }

    private void ticket() {
        edges.says(17, "`alloy`: 0 to 3");
        SpoolwrightYard yard = Yards.full();
        edges.due("ticket(4, 0, 5)", yard.ticket(4, 0, 5), 999);
        edges.due("ticket(4, 3, 5)", yard.ticket(4, 3, 5), -1);
        edges.says(17, "`day`: 0 to 999");
        edges.due("ticket(4, 3, 0)", yard.ticket(4, 3, 0), 5);
        edges.due("ticket(4, 3, 999)", yard.ticket(4, 3, 999), 0);
        edges.due("ticket(4, 3, 998)", yard.ticket(4, 3, 998), 999);
        edges.due("ticket(3, 3, 998), of another welder", yard.ticket(3, 3, 998), -1);
    }

    private void ticketRefused() {
        edges.says(17, "Throws `IndexOutOfBoundsException` if there is no such welder");
        edges.noSuchWelder("ticket", (of, welder) -> of.ticket(welder, 0, 0));
        edges.says(17, "Throws `IllegalArgumentException` if a number is out of range");
        SpoolwrightYard yard = Yards.full();
        edges.outOfRange("ticket(4, .., 5)", yard, 0, 3, alloy -> yard.ticket(4, alloy, 5));
        edges.outOfRange("ticket(4, 0, ..)", yard, 0, 999, day -> yard.ticket(4, 0, day));
    }

    private void mayWeld() {
        edges.says(18, "Throws `IndexOutOfBoundsException` if there is no such line, joint or welder");
        edges.noSuchLine("mayWeld", (of, line) -> of.mayWeld(line, 0, 0));
        edges.noSuchJoint("mayWeld", (of, line, joint) -> of.mayWeld(line, joint, 0));
        edges.noSuchWelder("mayWeld", (of, welder) -> of.mayWeld(0, 0, welder));
    }

    private void welds() {
        edges.says(Edges.TERMS, "Joints are new 'n' at first.");
        SpoolwrightYard yard = Yards.ofLengths(100, 100);
        edges.due("joint(0, 0)", yard.joint(0, 0), 'n');
        edges.says(Edges.TERMS, "A joint that is new can be welded 'w' by a welder who has a ticket for the alloy, if both"
            + " parts have steel, of one alloy.");
        yard.addWelder();
        yard.ticket(0, 3, 0);
        yard.addHeat(3, 200, false);
        yard.addHeat(2, 100, true);
        yard.addHeat(3, 100, true);
        edges.refused("weld(0, 0, 0) without steel", yard, Checks.UNSUPPORTED, () -> yard.weld(0, 0, 0));
        yard.give(0, 0, 0);
        edges.refused("weld(0, 0, 0), steel of the first", yard, Checks.UNSUPPORTED, () -> yard.weld(0, 0, 0));
        yard.give(0, 1, 1);
        edges.refused("weld(0, 0, 0) of two alloys", yard, Checks.UNSUPPORTED, () -> yard.weld(0, 0, 0));
        yard.ticket(0, 2, 999);
        edges.refused("weld(0, 0, 0), tickets for both", yard, Checks.UNSUPPORTED, () -> yard.weld(0, 0, 0));
        yard.setLength(0, 0, 300);
        edges.refused("weld(0, 0, 0), steel of the second", yard, Checks.UNSUPPORTED, () -> yard.weld(0, 0, 0));
        yard.setLength(0, 0, 100);
        yard.give(0, 0, 0);
        yard.give(0, 1, 2);
        edges.due("weld(0, 0, 0) of two heats", yard.weld(0, 0, 0), 1);
        edges.due("joint(0, 0)", yard.joint(0, 0), 'w');
    }

    private void weld() {
        edges.says(19, "Throws `IndexOutOfBoundsException` if there is no such line, joint or welder");
        edges.noSuchLine("weld", (of, line) -> of.weld(line, 0, 0));
        edges.noSuchJoint("weld", (of, line, joint) -> of.weld(line, joint, 0));
        edges.noSuchWelder("weld", (of, welder) -> of.weld(0, 0, welder));
    }

    private void weldRefused() {
        edges.says(19, "Throws `UnsupportedOperationException` if it is not new, or the welder may not");
        SpoolwrightYard yard = Yards.ofClass(1, 2);
        yard.addWelder();
        yard.ticket(1, 1, 999);
        edges.refused("weld(0, 0, 1), another ticket", yard, Checks.UNSUPPORTED, () -> yard.weld(0, 0, 1));
        yard.ticket(1, 0, 0);
        yard.pass(1);
        edges.refused("weld(0, 0, 1), a day late", yard, Checks.UNSUPPORTED, () -> yard.weld(0, 0, 1));
        edges.due("weld(0, 0, 0)", yard.weld(0, 0, 0), 1);
        edges.refused("weld(0, 0, 0), welded", yard, Checks.UNSUPPORTED, () -> yard.weld(0, 0, 0));
        yard.look(0, 0, false);
        edges.refused("weld(0, 0, 0), bad", yard, Checks.UNSUPPORTED, () -> yard.weld(0, 0, 0));
        yard.repair(0, 0, 0);
        edges.refused("weld(0, 0, 0), repaired", yard, Checks.UNSUPPORTED, () -> yard.weld(0, 0, 0));
        yard.look(0, 0, true);
        edges.refused("weld(0, 0, 0), good", yard, Checks.UNSUPPORTED, () -> yard.weld(0, 0, 0));
    }

    private void looksAndRepairs() {
        edges.says(Edges.TERMS, "A look at one that is welded makes it good 'g' or bad 'b'; one that is bad can be repaired,"
            + " by a welder likewise, at most twice, which makes it welded; one that is bad behind two repairs can be cut"
            + " out alone, which makes it new, without repairs.");
        SpoolwrightYard yard = Yards.ofClass(1, 2);
        for (int round = 1; round <= 2; round++) {
            edges.due("weld(0, 0, 0)", yard.weld(0, 0, 0), 1);
            for (int repair = 1; repair <= 2; repair++) {
                edges.due("look(0, 0, false)", yard.look(0, 0, false), 'b');
                edges.refused("cutOut(0, 0), too early", yard, Checks.UNSUPPORTED, () -> yard.cutOut(0, 0));
                edges.due("repair(0, 0, 0)", yard.repair(0, 0, 0), repair);
                edges.due("joint(0, 0)", yard.joint(0, 0), 'w');
            }
            edges.refused("cutOut(0, 0), not bad", yard, Checks.UNSUPPORTED, () -> yard.cutOut(0, 0));
            edges.due("look(0, 0, false)", yard.look(0, 0, false), 'b');
            edges.refused("repair(0, 0, 0), a third", yard, Checks.UNSUPPORTED, () -> yard.repair(0, 0, 0));
            edges.due("cutOut(0, 0)", yard.cutOut(0, 0), round);
            edges.due("joint(0, 0)", yard.joint(0, 0), 'n');
        }
        yard.weld(0, 0, 0);
        edges.due("look(0, 0, true)", yard.look(0, 0, true), 'g');
    }

    private void look() {
        edges.says(20, "Throws `IndexOutOfBoundsException` if there is no such line or joint");
        edges.noSuchLine("look", (of, line) -> of.look(line, 0, true));
        edges.noSuchJoint("look", (of, line, joint) -> of.look(line, joint, true));
        edges.says(20, "Throws `UnsupportedOperationException` if it is not welded");
        SpoolwrightYard yard = Yards.ofClass(1, 3);
        for (boolean isGood : new boolean[] {true, false}) {
            int joint = isGood ? 0 : 1;
            edges.refused("look, new", yard, Checks.UNSUPPORTED, () -> yard.look(0, joint, isGood));
            Yards.weldAndLook(yard, joint, isGood);
            edges.refused("look again", yard, Checks.UNSUPPORTED, () -> yard.look(0, joint, isGood));
            edges.refused("look otherwise", yard, Checks.UNSUPPORTED, () -> yard.look(0, joint, !isGood));
        }
        Yards.repairAndFail(yard, 1);
        Yards.repairAndFail(yard, 1);
        yard.cutOut(0, 1);
        edges.refused("look(0, 1, true), cut out", yard, Checks.UNSUPPORTED, () -> yard.look(0, 1, true));
        yard.setLength(0, 0, 200);
        edges.refused("look(0, 0, true), undone", yard, Checks.UNSUPPORTED, () -> yard.look(0, 0, true));
    }

    private void repair() {
        edges.says(21, "Throws `IndexOutOfBoundsException` if there is no such line, joint or welder");
        edges.noSuchLine("repair", (of, line) -> of.repair(line, 0, 0));
        edges.noSuchJoint("repair", (of, line, joint) -> of.repair(line, joint, 0));
        edges.noSuchWelder("repair", (of, welder) -> of.repair(0, 0, welder));
    }

    private void repairRefused() {
        edges.says(21, "Throws `UnsupportedOperationException` if it is not bad, was repaired twice, or the welder may not");
        SpoolwrightYard yard = Yards.ofClass(1, 3);
        yard.addWelder();
        yard.ticket(1, 1, 999);
        edges.refused("repair(0, 0, 0), new", yard, Checks.UNSUPPORTED, () -> yard.repair(0, 0, 0));
        yard.weld(0, 0, 0);
        edges.refused("repair(0, 0, 0), welded", yard, Checks.UNSUPPORTED, () -> yard.repair(0, 0, 0));
        yard.look(0, 0, true);
        edges.refused("repair(0, 0, 0), good", yard, Checks.UNSUPPORTED, () -> yard.repair(0, 0, 0));
        Yards.weldAndLook(yard, 1, false);
        edges.refused("repair(0, 1, 1), another ticket", yard, Checks.UNSUPPORTED, () -> yard.repair(0, 1, 1));
        yard.ticket(1, 0, 0);
        edges.due("repair(0, 1, 1), on the last day", yard.repair(0, 1, 1), 1);
        yard.look(0, 1, false);
        yard.pass(1);
        edges.refused("repair(0, 1, 1), a day late", yard, Checks.UNSUPPORTED, () -> yard.repair(0, 1, 1));
        Yards.repairAndFail(yard, 1);
        edges.refused("repair(0, 1, 0), a third", yard, Checks.UNSUPPORTED, () -> yard.repair(0, 1, 0));
    }

    private void cutOut() {
        edges.says(22, "Throws `IndexOutOfBoundsException` if there is no such line or joint");
        edges.noSuchLine("cutOut", (of, line) -> of.cutOut(line, 0));
        edges.noSuchJoint("cutOut", SpoolwrightYard::cutOut);
        edges.says(22, "Throws `UnsupportedOperationException` if it is not bad, or was not repaired twice");
        SpoolwrightYard yard = Yards.ofClass(1, 3);
        edges.refused("cutOut(0, 0), new", yard, Checks.UNSUPPORTED, () -> yard.cutOut(0, 0));
        Yards.weldAndLook(yard, 0, false);
        edges.refused("cutOut(0, 0), no repair", yard, Checks.UNSUPPORTED, () -> yard.cutOut(0, 0));
        Yards.repairAndFail(yard, 0);
        edges.refused("cutOut(0, 0), one repair", yard, Checks.UNSUPPORTED, () -> yard.cutOut(0, 0));
        yard.repair(0, 0, 0);
        edges.refused("cutOut(0, 0), two repairs, welded", yard, Checks.UNSUPPORTED, () -> yard.cutOut(0, 0));
        yard.look(0, 0, true);
        edges.refused("cutOut(0, 0), two repairs, good", yard, Checks.UNSUPPORTED, () -> yard.cutOut(0, 0));
        Yards.spoil(yard, 1);
        edges.due("cutOut(0, 1)", yard.cutOut(0, 1), 1);
        edges.refused("cutOut(0, 1) again", yard, Checks.UNSUPPORTED, () -> yard.cutOut(0, 1));
    }

    private void joint() {
        edges.says(23, "Returns 'n', 'w', 'g' or 'b'.");
        SpoolwrightYard yard = Yards.ofClass(1, 10);
        yard.weld(0, 8, 0);
        Yards.weldAndLook(yard, 0, true);
        Yards.weldAndLook(yard, 7, false);
        edges.due("joint(0, 1)", yard.joint(0, 1), 'n');
        edges.due("joint(0, 8), the last", yard.joint(0, 8), 'w');
        edges.due("joint(0, 0), the first", yard.joint(0, 0), 'g');
        edges.due("joint(0, 7)", yard.joint(0, 7), 'b');
        edges.says(23, "Throws `IndexOutOfBoundsException` if there is no such line or joint");
        edges.noSuchLine("joint", (of, line) -> of.joint(line, 0));
        edges.noSuchJoint("joint", SpoolwrightYard::joint);
    }

    private void welderOf() {
        edges.says(24, "Throws `IndexOutOfBoundsException` if there is no such line or joint");
        edges.noSuchLine("welderOf", (of, line) -> of.welderOf(line, 0));
        edges.noSuchJoint("welderOf", SpoolwrightYard::welderOf);
        edges.says(24, "Throws `NoSuchElementException` if it is new");
        SpoolwrightYard yard = Yards.ofClass(1, 3);
        edges.refused("welderOf(0, 0), never welded", yard, Checks.NONE, () -> yard.welderOf(0, 0));
        Yards.spoil(yard, 0);
        edges.due("welderOf(0, 0)", yard.welderOf(0, 0), 0);
        yard.cutOut(0, 0);
        edges.refused("welderOf(0, 0), cut out", yard, Checks.NONE, () -> yard.welderOf(0, 0));
        Yards.weldAndLook(yard, 1, true);
        edges.due("welderOf(0, 1)", yard.welderOf(0, 1), 0);
        yard.setLength(0, 2, 200);
        edges.refused("welderOf(0, 1), undone", yard, Checks.NONE, () -> yard.welderOf(0, 1));
    }

    private void looksByClass() {
        edges.says(Edges.TERMS, "Of the joints of a line 5, 20 or 100 hundredths, by its class 1, 2 or 3, rounded up, are to"
            + " be looked at, and 2 more for each look at its joints that was ever bad, all joints at most.");
        int[][] due = {{0, 1, 1, 1, 1, 1, 1, 1, 1, 1}, {0, 1, 1, 1, 1, 1, 2, 2, 2, 2}, {0, 1, 2, 3, 4, 5, 6, 7, 8, 9}};
        for (int number = 1; number <= 3; number++) {
            for (int joints = 0; joints <= 9; joints++) {
                int got = Yards.ofClass(number, joints + 1).toLook(0);
                edges.due("toLook(0) of class " + number + " with " + joints + " joints", got, due[number - 1][joints]);
            }
        }
        edges.due("toLook(0) without parts", Yards.ofClass(3, 0).toLook(0), 0);
    }

    private void looksBehindBadOnes() {
        SpoolwrightYard yard = Yards.ofClass(2, 10);
        Yards.weldAndLook(yard, 0, false);
        edges.due("toLook(0), 4 due behind one bad look, one looked at", yard.toLook(0), 3);
        yard.repair(0, 0, 0);
        edges.due("toLook(0), the one not looked at", yard.toLook(0), 4);
        yard.look(0, 0, false);
        edges.due("toLook(0), 6 due behind two at one joint", yard.toLook(0), 5);
        Yards.repairAndFail(yard, 0);
        edges.due("toLook(0), 8 due", yard.toLook(0), 7);
        yard.cutOut(0, 0);
        edges.due("toLook(0), 8 due behind the cut", yard.toLook(0), 8);
        Yards.weldAndLook(yard, 8, false);
        edges.due("toLook(0), all 9 due, not 10", yard.toLook(0), 8);
        yard.setLength(0, 9, 200);
        edges.due("toLook(0), all 9 due behind a change", yard.toLook(0), 9);
        SpoolwrightYard one = Yards.ofClass(1, 2);
        Yards.weldAndLook(one, 0, false);
        edges.due("toLook(0), all due are one", one.toLook(0), 0);
        one.addPart(0, 'v', 0);
        edges.due("toLook(0), all due are two", one.toLook(0), 1);
    }

    private void lookedAt() {
        edges.says(Edges.TERMS, "Looked at is a joint that is good or bad.");
        SpoolwrightYard yard = Yards.ofClass(3, 4);
        yard.weld(0, 0, 0);
        edges.due("toLook(0), one welded", yard.toLook(0), 3);
        yard.look(0, 0, true);
        edges.due("toLook(0), one good", yard.toLook(0), 2);
        Yards.weldAndLook(yard, 1, false);
        edges.due("toLook(0), one bad", yard.toLook(0), 1);
        yard.repair(0, 1, 0);
        edges.due("toLook(0), repaired", yard.toLook(0), 2);
        yard.setLength(0, 0, 200);
        edges.due("toLook(0), undone", yard.toLook(0), 3);
    }

    private void toLook() {
        edges.says(25, "Returns how many, 0 at least.");
        SpoolwrightYard yard = Yards.ofClass(1, 4);
        for (int joint = 0; joint < 3; joint++) {
            Yards.weldAndLook(yard, joint, true);
            edges.due("toLook(0), one due, looks at " + (joint + 1), yard.toLook(0), 0);
        }
        edges.says(25, "Throws `IndexOutOfBoundsException` if there is no such line");
        edges.noSuchLine("toLook", SpoolwrightYard::toLook);
    }

    private void failed() {
        edges.says(26, "Throws `IndexOutOfBoundsException` if there is no such welder");
        edges.noSuchWelder("failed", SpoolwrightYard::failed);
        SpoolwrightYard yard = Yards.full();
        yard.weld(3, 8, 4);
        yard.look(3, 8, false);
        edges.due("failed(4), the last one", yard.failed(4), 1);
        edges.due("failed(0)", yard.failed(0), 0);
    }

    private void pass() {
        edges.says(27, "`days`: 1 to 99");
        SpoolwrightYard yard = new SpoolwrightYard();
        edges.due("pass(1)", yard.pass(1), 1);
        edges.due("pass(99)", yard.pass(99), 100);
        edges.says(27, "Throws `IllegalArgumentException` if a number is out of range");
        edges.outOfRange("pass", yard, 1, 99, yard::pass);
        edges.says(27, "Throws `IllegalStateException` if it would be above 999");
        for (int day = 199; day <= 991; day += 99) {
            edges.due("pass(99)", yard.pass(99), day);
        }
        edges.refused("pass(9), to 1000", yard, Checks.STATE, () -> yard.pass(9));
        edges.refused("pass(99)", yard, Checks.STATE, () -> yard.pass(99));
        edges.due("pass(8), to 999", yard.pass(8), 999);
        edges.refused("pass(1), to 1000", yard, Checks.STATE, () -> yard.pass(1));
    }
}
