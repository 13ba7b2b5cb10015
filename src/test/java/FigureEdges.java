/** The boundaries of figures, refusals and long use: promises 41 to 43, and what the terms say of exceptions. */
final class FigureEdges {
    private final Edges edges;

    FigureEdges(Edges edges) {
        this.edges = edges;
    }

    void run() {
        checksum();
        checksumOfAll();
        doneShare();
        meanSpool();
        refusalsChangeNothing();
        orderInLinesAndSteel();
        orderInWelds();
        orderInEndsAndPapers();
        longUse();
        oldAge();
    }

    private void checksum() {
        edges.says(41, "Returns 7 at first, then, line by line and joint by joint, 31 times itself plus how the joint is, as"
            + " a number; then for each heat 31 times itself plus what is left; then 31 times itself plus the joints undone,"
            + " and 31 times itself plus the day.");
        SpoolwrightYard yard = new SpoolwrightYard();
        edges.due("checksum(), nothing there", yard.checksum(), 6727L);
        yard.addLine(1);
        yard.addPart(0, 'v', 0);
        yard.addWelder();
        yard.addCircuit(1);
        edges.due("checksum(), no joint", yard.checksum(), 6727L);
        yard.addPart(0, 'v', 0);
        edges.due("checksum(), a joint", yard.checksum(), ((7L * 31 + 'n') * 31) * 31);
        yard.addHeat(0, 20000, true);
        edges.due("checksum(), a heat", yard.checksum(), (((7L * 31 + 'n') * 31 + 20000) * 31) * 31);
        yard.pass(99);
        edges.due("checksum(), a day", yard.checksum(), (((7L * 31 + 'n') * 31 + 20000) * 31) * 31 + 99);
        SpoolwrightYard undone = Yards.ofClass(1, 3);
        undone.weld(0, 0, 0);
        undone.weld(0, 1, 0);
        undone.setLength(0, 1, 200);
        edges.due("checksum(), two undone", undone.checksum(),
            ((((7L * 31 + 'n') * 31 + 'n') * 31 + 19800) * 31 + 2) * 31);
    }

    private void checksumOfAll() {
        SpoolwrightYard yard = Yards.full();
        long due = 7;
        for (int line = 0; line < 4; line++) {
            for (int joint = 0; joint < 9; joint++) {
                yard.weld(line, joint, line);
                due = 31 * due + 'w';
            }
        }
        for (int heat = 0; heat < 8; heat++) {
            due = 31 * due + (heat < 4 ? 0 : 5000);
        }
        edges.due("checksum(), wrapped around", yard.checksum(), 31 * 31 * due);
    }

    private void doneShare() {
        edges.says(42, "Throws `ArithmeticException` if there are none");
        SpoolwrightYard none = new SpoolwrightYard();
        edges.refused("doneShare() without lines", none, Checks.ARITHMETIC, none::doneShare);
        SpoolwrightYard yard = Yards.ofLines(4);
        edges.refused("doneShare() without parts", yard, Checks.ARITHMETIC, yard::doneShare);
        for (int line = 0; line < 4; line++) {
            yard.addPart(line, 's', 100);
        }
        edges.refused("doneShare() of one part a line", yard, Checks.ARITHMETIC, yard::doneShare);
        yard.addPart(3, 's', 100);
        edges.due("doneShare() of one joint", yard.doneShare(), 0.0f);
    }

    private void meanSpool() {
        edges.says(43, "Throws `IndexOutOfBoundsException` if there is no such line");
        edges.noSuchLine("meanSpool", SpoolwrightYard::meanSpool);
        edges.says(43, "Throws `ArithmeticException` if there are none");
        SpoolwrightYard yard = Yards.ofLines(2);
        yard.addPart(0, 's', 6000);
        edges.refused("meanSpool(1)", yard, Checks.ARITHMETIC, () -> yard.meanSpool(1));
        edges.due("meanSpool(0)", yard.meanSpool(0), 6000.0);
        yard.addPart(1, 's', 100);
        edges.due("meanSpool(1), the shortest", yard.meanSpool(1), 100.0);
    }

    private void refuseAll(SpoolwrightYard yard) {
        edges.refused("addLine", yard, Checks.STATE, () -> yard.addLine(1));
        edges.refused("addPart", yard, Checks.STATE, () -> yard.addPart(0, 's', 100));
        edges.refused("setLength", yard, Checks.UNSUPPORTED, () -> yard.setLength(0, 0, 500));
        edges.refused("addHeat", yard, Checks.STATE, () -> yard.addHeat(0, 100, true));
        edges.refused("give, of that heat", yard, Checks.UNSUPPORTED, () -> yard.give(0, 0, 0));
        edges.refused("give, none left", yard, Checks.UNSUPPORTED, () -> yard.give(0, 0, 1));
        edges.refused("bestHeat", yard, Checks.NONE, () -> yard.bestHeat(0, 0, 1));
        edges.refused("addWelder", yard, Checks.STATE, yard::addWelder);
        edges.refused("ticket", yard, Checks.ARGUMENT, () -> yard.ticket(0, 0, 1000));
        edges.refused("weld", yard, Checks.UNSUPPORTED, () -> yard.weld(0, 0, 0));
        edges.refused("look", yard, Checks.UNSUPPORTED, () -> yard.look(0, 1, false));
        edges.refused("repair", yard, Checks.UNSUPPORTED, () -> yard.repair(0, 0, 0));
        edges.refused("cutOut", yard, Checks.UNSUPPORTED, () -> yard.cutOut(0, 0));
        edges.refused("welderOf", yard, Checks.NONE, () -> yard.welderOf(0, 1));
        edges.refused("pass", yard, Checks.ARGUMENT, () -> yard.pass(0));
        edges.refused("join", yard, Checks.UNSUPPORTED, () -> yard.join(0, true, 2, true));
        edges.refused("blind", yard, Checks.UNSUPPORTED, () -> yard.blind(0, true, true));
        edges.refused("addCircuit", yard, Checks.ARGUMENT, () -> yard.addCircuit(16));
        edges.refused("testAll", yard, Checks.UNSUPPORTED, () -> yard.testAll(0));
        edges.refused("ahead", yard, Checks.UNSUPPORTED, () -> yard.ahead(1, 0));
        edges.refused("turnover", yard, Checks.NONE, () -> yard.turnover(4));
    }

    private void refusalsChangeNothing() {
        edges.says(Edges.TERMS, "A method that throws an exception changes nothing.");
        SpoolwrightYard yard = Yards.full();
        Yards.weldAndLook(yard, 0, true);
        yard.join(0, true, 1, false);
        yard.addCircuit(15);
        yard.ahead(0, 1);
        refuseAll(yard);
        edges.due("left(0)", yard.left(0), 0);
        edges.due("heatOf(0, 0)", yard.heatOf(0, 0), 0);
        edges.due("ticket(0, 0, 999)", yard.ticket(0, 0, 999), 999);
        edges.due("joint(0, 0)", yard.joint(0, 0), 'g');
        edges.due("failed(0)", yard.failed(0), 0);
        edges.due("undone()", yard.undone(), 0);
        edges.due("pass(1)", yard.pass(1), 1);
        edges.due("join parts", yard.join(0, true, 1, false), false);
        edges.due("blind(2, true, false)", yard.blind(2, true, false), false);
        edges.due("addCircuit(15)", yard.addCircuit(15), 1);
        edges.due("ahead(0, 1)", yard.ahead(0, 1), true);
    }

    private void orderInLinesAndSteel() {
        edges.says(Edges.TERMS, "If several exceptions apply, the one that is documented first is thrown.");
        SpoolwrightYard yard = Yards.full();
        edges.refused("addLine(0), full", yard, Checks.ARGUMENT, () -> yard.addLine(0));
        edges.refused("addPart(4, 'x', 0)", yard, Checks.INDEX, () -> yard.addPart(4, 'x', 0));
        edges.refused("addPart(4, 's', 6001)", yard, Checks.INDEX, () -> yard.addPart(4, 's', 6001));
        edges.refused("addPart(3, 'x', 100), full", yard, Checks.ARGUMENT, () -> yard.addPart(3, 'x', 100));
        edges.refused("addPart(3, 's', 99), full", yard, Checks.ARGUMENT, () -> yard.addPart(3, 's', 99));
        edges.refused("setLength(4, 0, 99)", yard, Checks.INDEX, () -> yard.setLength(4, 0, 99));
        edges.refused("setLength(3, 10, 6001)", yard, Checks.INDEX, () -> yard.setLength(3, 10, 6001));
        edges.refused("addHeat(4, 100, true), full", yard, Checks.ARGUMENT, () -> yard.addHeat(4, 100, true));
        edges.refused("addHeat(0, 20001, true), full", yard, Checks.ARGUMENT, () -> yard.addHeat(0, 20001, true));
        edges.refused("bestHeat(4, 0, 4)", yard, Checks.INDEX, () -> yard.bestHeat(4, 0, 4));
        edges.refused("bestHeat(3, 10, -1)", yard, Checks.INDEX, () -> yard.bestHeat(3, 10, -1));
        edges.refused("bestHeat(3, 9, 4), none", yard, Checks.ARGUMENT, () -> yard.bestHeat(3, 9, 4));
        SpoolwrightYard valve = Yards.ofKinds("v", 0);
        edges.refused("setLength(0, 0, 99) of a valve", valve, Checks.ARGUMENT, () -> valve.setLength(0, 0, 99));
        edges.refused("give(0, 1, 0) without either", valve, Checks.INDEX, () -> valve.give(0, 1, 0));
    }

    private void orderInWelds() {
        SpoolwrightYard yard = Yards.full();
        edges.refused("ticket(5, 4, 0)", yard, Checks.INDEX, () -> yard.ticket(5, 4, 0));
        edges.refused("ticket(5, 0, 1000)", yard, Checks.INDEX, () -> yard.ticket(5, 0, 1000));
        edges.refused("repair(0, 0, 5), new", yard, Checks.INDEX, () -> yard.repair(0, 0, 5));
        yard.weld(0, 0, 0);
        edges.refused("weld(0, 0, 5), not new", yard, Checks.INDEX, () -> yard.weld(0, 0, 5));
        for (int day = 0; day < 990; day += 99) {
            yard.pass(99);
        }
        edges.refused("pass(100), above 999", yard, Checks.ARGUMENT, () -> yard.pass(100));
        edges.refused("pass(MAX), above 999", yard, Checks.ARGUMENT, () -> yard.pass(Integer.MAX_VALUE));
    }

    private void orderInEndsAndPapers() {
        SpoolwrightYard yard = Yards.ofLines(3);
        yard.blind(0, true, true);
        yard.join(1, true, 2, true);
        edges.refused("join(3, true, 3, true)", yard, Checks.INDEX, () -> yard.join(3, true, 3, true));
        edges.refused("join(0, true, 3, true), blind", yard, Checks.INDEX, () -> yard.join(0, true, 3, true));
        edges.refused("join(0, true, 0, true), blind", yard, Checks.ARGUMENT, () -> yard.join(0, true, 0, true));
        edges.refused("join(1, true, 1, true), joined", yard, Checks.ARGUMENT, () -> yard.join(1, true, 1, true));
        edges.refused("ahead(3, 3)", yard, Checks.INDEX, () -> yard.ahead(3, 3));
        yard.ahead(0, 1);
        edges.refused("ahead(1, 1), ahead of itself", yard, Checks.ARGUMENT, () -> yard.ahead(1, 1));
        for (int i = 0; i < 6; i++) {
            yard.addCircuit(7);
        }
        edges.refused("addCircuit(0), full", yard, Checks.ARGUMENT, () -> yard.addCircuit(0));
        edges.refused("addCircuit(8), full", yard, Checks.ARGUMENT, () -> yard.addCircuit(8));
        edges.refused("addCircuit(16), full", yard, Checks.ARGUMENT, () -> yard.addCircuit(16));
    }

    private void longUse() {
        edges.says(Edges.TERMS, "An object is used for at most 512 calls after it has been made; what later calls answer is"
            + " free.");
        SpoolwrightYard yard = Yards.ofClass(3, 2);
        int calls = 8;
        for (int cut = 1; cut <= 71; cut++) {
            Yards.spoil(yard, 0);
            edges.due("cutOut(0, 0)", yard.cutOut(0, 0), cut);
            calls += 7;
        }
        edges.due("failed(0)", yard.failed(0), 3 * 71);
        edges.due("toLook(0), all joints", yard.toLook(0), 1);
        edges.due("weld(0, 0, 0)", yard.weld(0, 0, 0), 1);
        edges.due("look(0, 0, true)", yard.look(0, 0, true), 'g');
        edges.due("undone()", yard.undone(), 0);
        edges.due("left(0)", yard.left(0), 19800);
        edges.due("checksum()", yard.checksum(), (((7L * 31 + 'g') * 31 + 19800) * 31) * 31);
        edges.due("calls that were made", calls + 7, 512);
    }

    private void oldAge() {
        SpoolwrightYard yard = Yards.ofClass(3, 2);
        int calls = 8;
        for (int undone = 0; undone < 167; undone++) {
            yard.weld(0, 0, 0);
            yard.setLength(0, 1, undone % 2 == 0 ? 6000 : 100);
            yard.give(0, 1, 0);
            calls += 3;
        }
        edges.due("left(0)", yard.left(0), 20000 - 6000 - 100);
        edges.due("isSound()", yard.isSound(), true);
        edges.due("undone(), the last call", yard.undone(), 167);
        edges.due("calls that were made", calls + 3, 512);
    }
}
