/** The boundaries of ends, blinds, circuits and tests: promises 28 to 34, and what the terms say of them. */
final class EndEdges {
    private final Edges edges;

    EndEdges(Edges edges) {
        this.edges = edges;
    }

    void run() {
        twoEnds();
        oneToOne();
        join();
        joinRefused();
        blinds();
        blindsOfJoined();
        blind();
        circuits();
        addCircuit();
        addCircuitRefused();
        openEnds();
        open();
        testable();
        testableByLooks();
        testableWithoutJoints();
        testAll();
        tested();
        testedUntilParts();
        testedUntilWelds();
        testedUntilEnds();
        testedInspite();
    }

    private void twoEnds() {
        edges.says(Edges.TERMS, "A line has two ends.");
        SpoolwrightYard yard = Yards.ofLines(1);
        yard.addCircuit(1);
        edges.due("open(0)", yard.open(0), 2);
        edges.due("blind(0, true, true)", yard.blind(0, true, true), false);
        edges.due("blind(0, false, true), the other end", yard.blind(0, false, true), false);
        edges.due("open(0), both blind", yard.open(0), 0);
    }

    private void oneToOne() {
        edges.says(Edges.TERMS, "An end can be joined to an end of another line, one to one.");
        SpoolwrightYard yard = Yards.ofLines(4);
        for (int line = 0; line < 4; line++) {
            edges.due("join in a ring", yard.join(line, true, (line + 1) % 4, false), true);
        }
        for (int line = 0; line < 4; line++) {
            int one = line;
            edges.refused("join, both taken", yard, Checks.UNSUPPORTED,
                () -> yard.join(one, true, (one + 2) % 4, false));
            edges.due("join parts, from the other side", yard.join((line + 1) % 4, false, line, true), false);
        }
        edges.due("join, last to last", yard.join(0, true, 1, true), true);
        edges.due("join, first to first", yard.join(1, false, 0, false), true);
        edges.due("join parts the last ones", yard.join(1, true, 0, true), false);
        edges.due("join parts the first ones", yard.join(1, false, 0, false), false);
    }

    private void join() {
        edges.says(28, "Throws `IndexOutOfBoundsException` if there is no such line, for either");
        edges.noSuchLine("join", (of, line) -> of.join(line, true, 0, true));
        edges.noSuchLine("join, the other", (of, line) -> of.join(0, true, line, true));
        edges.says(28, "Throws `IllegalArgumentException` if both are the same");
        SpoolwrightYard yard = Yards.ofLines(4);
        for (int line : new int[] {0, 3}) {
            for (boolean isLast : new boolean[] {false, true}) {
                edges.refused("join", yard, Checks.ARGUMENT, () -> yard.join(line, isLast, line, isLast));
                edges.refused("join, the two ends", yard, Checks.ARGUMENT, () -> yard.join(line, isLast, line, !isLast));
            }
        }
    }

    private void joinRefused() {
        edges.says(28, "Throws `UnsupportedOperationException` if one is joined to a third one, or has a blind");
        SpoolwrightYard yard = Yards.ofLines(3);
        yard.join(0, true, 1, false);
        edges.refused("join, the first joined", yard, Checks.UNSUPPORTED, () -> yard.join(0, true, 2, false));
        edges.refused("join, the other joined", yard, Checks.UNSUPPORTED, () -> yard.join(2, false, 1, false));
        edges.refused("join, to its other end", yard, Checks.UNSUPPORTED, () -> yard.join(0, true, 1, true));
        edges.refused("join, from its other end", yard, Checks.UNSUPPORTED, () -> yard.join(0, false, 1, false));
        yard.join(1, true, 2, true);
        edges.refused("join, both joined", yard, Checks.UNSUPPORTED, () -> yard.join(0, true, 2, true));
        yard.blind(2, false, true);
        edges.refused("join, the other blind", yard, Checks.UNSUPPORTED, () -> yard.join(0, false, 2, false));
        edges.refused("join, the first blind", yard, Checks.UNSUPPORTED, () -> yard.join(2, false, 0, false));
        edges.refused("join, joined and blind", yard, Checks.UNSUPPORTED, () -> yard.join(0, true, 2, false));
        yard.blind(2, false, false);
        edges.due("join, the blind off", yard.join(0, false, 2, false), true);
        edges.due("join parts", yard.join(0, true, 1, false), false);
        edges.due("join, to its other end now", yard.join(0, true, 1, false), true);
    }

    private void blinds() {
        edges.says(Edges.TERMS, "An end that is joined to none can have a blind; both stay with the end as parts are"
            + " added.");
        SpoolwrightYard yard = Yards.ofLines(2);
        yard.blind(0, true, true);
        yard.join(0, false, 1, true);
        for (int part = 0; part < 10; part++) {
            yard.addPart(0, 'v', 0);
            yard.addPart(1, 'v', 0);
            edges.due("blind(0, true, true), still on", yard.blind(0, true, true), true);
            edges.refused("blind(0, false, true), still joined", yard, Checks.UNSUPPORTED,
                () -> yard.blind(0, false, true));
            edges.refused("blind(1, true, true), still joined", yard, Checks.UNSUPPORTED,
                () -> yard.blind(1, true, true));
            edges.due("blind(1, false, false), never on", yard.blind(1, false, false), false);
        }
        edges.due("join parts", yard.join(1, true, 0, false), false);
    }

    private void blindsOfJoined() {
        edges.says(29, "Throws `UnsupportedOperationException` if it is to be, and the end is joined");
        SpoolwrightYard yard = Yards.ofLines(2);
        yard.join(0, true, 1, false);
        edges.refused("blind(0, true, true)", yard, Checks.UNSUPPORTED, () -> yard.blind(0, true, true));
        edges.refused("blind(1, false, true)", yard, Checks.UNSUPPORTED, () -> yard.blind(1, false, true));
        edges.due("blind(0, true, false), not to be", yard.blind(0, true, false), false);
        edges.due("blind(1, false, false), not to be", yard.blind(1, false, false), false);
        edges.due("blind(0, false, true), not joined", yard.blind(0, false, true), false);
        edges.due("blind(1, true, true), not joined", yard.blind(1, true, true), false);
        yard.join(0, true, 1, false);
        edges.due("blind(0, true, true), parted", yard.blind(0, true, true), false);
    }

    private void blind() {
        edges.says(29, "Throws `IndexOutOfBoundsException` if there is no such line");
        edges.noSuchLine("blind", (of, line) -> of.blind(line, true, true));
        edges.noSuchLine("blind off", (of, line) -> of.blind(line, false, false));
    }

    private void circuits() {
        edges.says(Edges.TERMS, "A circuit are some lines, told by bits; at most 6 are numbered from 0.");
        SpoolwrightYard yard = Yards.ofLines(4);
        int[] bits = {1, 2, 4, 8, 15, 15};
        int[] due = {2, 1, 1, 2, 6, 6};
        for (int i = 0; i < 6; i++) {
            edges.due("addCircuit(" + bits[i] + ")", yard.addCircuit(bits[i]), i);
        }
        yard.blind(1, true, true);
        yard.blind(2, false, true);
        for (int i = 0; i < 6; i++) {
            edges.due("open(" + i + ")", yard.open(i), due[i]);
        }
    }

    private void addCircuit() {
        edges.says(30, "`lines`: the bits, 1 to 15");
        for (int bits = 1; bits <= 15; bits++) {
            SpoolwrightYard yard = Yards.ofLines(4);
            edges.due("addCircuit(" + bits + ")", yard.addCircuit(bits), 0);
            edges.due("open(0) of " + bits, yard.open(0), 2 * Integer.bitCount(bits));
        }
    }

    private void addCircuitRefused() {
        edges.says(30, "Throws `IllegalArgumentException` if it is out of range, or a bit is that of no line");
        for (int lines = 0; lines <= 4; lines++) {
            SpoolwrightYard yard = Yards.ofLines(lines);
            int all = (1 << lines) - 1;
            edges.outOfRange("addCircuit", yard, 1, all, yard::addCircuit);
            edges.refused("addCircuit of all and the next", yard, Checks.ARGUMENT, () -> yard.addCircuit(2 * all + 1));
            edges.refused("addCircuit(16)", yard, Checks.ARGUMENT, () -> yard.addCircuit(16));
            edges.refused("addCircuit(1 << 30)", yard, Checks.ARGUMENT, () -> yard.addCircuit(1 << 30));
            if (lines > 0) {
                edges.due("addCircuit(" + all + ")", yard.addCircuit(all), 0);
            }
        }
        edges.says(30, "Throws `IllegalStateException` if there are 6");
        SpoolwrightYard yard = Yards.ofLines(4);
        for (int i = 0; i < 6; i++) {
            edges.due("addCircuit(15)", yard.addCircuit(15), i);
        }
        edges.refused("addCircuit(15), a seventh", yard, Checks.STATE, () -> yard.addCircuit(15));
        edges.refused("addCircuit(1), a seventh", yard, Checks.STATE, () -> yard.addCircuit(1));
    }

    private void openEnds() {
        edges.says(Edges.TERMS, "An end of a line of it is open if it has no blind and is not joined to an end of a line of"
            + " the circuit.");
        SpoolwrightYard yard = Yards.ofLines(3);
        yard.addCircuit(1);
        yard.addCircuit(3);
        edges.due("open(1), all open", yard.open(1), 4);
        yard.blind(0, false, true);
        edges.due("open(1), a blind", yard.open(1), 3);
        yard.join(0, true, 1, true);
        edges.due("open(1), joined within", yard.open(1), 1);
        edges.due("open(0), joined to one outside", yard.open(0), 1);
        yard.join(1, false, 2, false);
        edges.due("open(1), joined to one outside", yard.open(1), 1);
        yard.join(1, false, 2, false);
        yard.blind(1, false, true);
        edges.due("open(1), none", yard.open(1), 0);
        yard.blind(0, false, false);
        edges.due("open(1), a blind off", yard.open(1), 1);
        yard.join(0, true, 1, true);
        edges.due("open(1), parted", yard.open(1), 3);
    }

    private void open() {
        edges.says(31, "Throws `IndexOutOfBoundsException` if there is no such circuit");
        edges.noSuchCircuit("open", SpoolwrightYard::open);
        edges.says(32, "Throws `IndexOutOfBoundsException` if there is no such circuit");
        edges.noSuchCircuit("canTest", SpoolwrightYard::canTest);
        edges.says(33, "Throws `IndexOutOfBoundsException` if there is no such circuit");
        edges.noSuchCircuit("testAll", SpoolwrightYard::testAll);
        edges.says(34, "Throws `IndexOutOfBoundsException` if there is no such line");
        edges.noSuchLine("isTested", SpoolwrightYard::isTested);
    }

    private void dueUntestable(String why, SpoolwrightYard yard) {
        edges.due("canTest(0), " + why, yard.canTest(0), false);
        edges.refused("testAll(0), " + why, yard, Checks.UNSUPPORTED, () -> yard.testAll(0));
    }

    private void testable() {
        edges.says(Edges.TERMS, "A circuit can be tested if it has no open end, and of each of its lines all joints are"
            + " welded or good, none new or bad, and as many are looked at as are to be; one without joints does not"
            + " matter.");
        SpoolwrightYard yard = Yards.ofTested();
        edges.due("canTest(0)", yard.canTest(0), true);
        yard.blind(0, true, false);
        dueUntestable("one open end", yard);
        yard.blind(0, true, true);
        edges.due("canTest(0), shut", yard.canTest(0), true);
        yard.look(0, 1, false);
        dueUntestable("the last joint bad, three to be looked at", yard);
        yard.repair(0, 1, 0);
        dueUntestable("repaired and not looked at", yard);
        yard.look(0, 1, true);
        edges.due("canTest(0), all good", yard.canTest(0), true);
        yard.setLength(0, 2, 200);
        dueUntestable("the last joint new", yard);
        SpoolwrightYard first = Yards.ofTested();
        first.setLength(0, 0, 200);
        first.look(0, 1, true);
        dueUntestable("the first joint new", first);
        first.give(0, 0, 0);
        Yards.weldAndLook(first, 0, false);
        dueUntestable("the first joint bad", first);
    }

    private void testableByLooks() {
        SpoolwrightYard yard = Yards.ofLines(2);
        Yards.addWelded(yard, 0, 10);
        Yards.addWelded(yard, 1, 2);
        Yards.blindBoth(yard, 0, true);
        Yards.blindBoth(yard, 1, true);
        yard.addCircuit(3);
        dueUntestable("no looks", yard);
        yard.look(0, 8, true);
        dueUntestable("one line without looks", yard);
        yard.look(1, 0, true);
        edges.due("canTest(0), as many looks as are due", yard.canTest(0), true);
        yard.look(0, 0, false);
        yard.repair(0, 0, 0);
        yard.look(0, 0, true);
        dueUntestable("two of three looks", yard);
        yard.look(0, 4, true);
        edges.due("canTest(0), three of three looks", yard.canTest(0), true);
        yard.look(0, 5, true);
        edges.due("canTest(0), more looks than are due", yard.canTest(0), true);
    }

    private void testableWithoutJoints() {
        SpoolwrightYard yard = Yards.ofLines(2);
        yard.addPart(1, 's', 100);
        yard.addCircuit(3);
        dueUntestable("open ends of lines without joints", yard);
        Yards.blindBoth(yard, 0, true);
        Yards.blindBoth(yard, 1, true);
        edges.due("canTest(0), without joints", yard.canTest(0), true);
        edges.due("testAll(0), without joints", yard.testAll(0), 2);
    }

    private void testAll() {
        edges.says(33, "Throws `UnsupportedOperationException` if it cannot be tested");
        SpoolwrightYard yard = Yards.ofLines(4);
        yard.addCircuit(8);
        dueUntestable("both ends open", yard);
        yard.blind(3, false, true);
        dueUntestable("one end open", yard);
        yard.join(3, true, 2, true);
        dueUntestable("one end joined to a line outside", yard);
        yard.join(3, true, 2, true);
        yard.blind(3, true, true);
        edges.due("testAll(0)", yard.testAll(0), 1);
        edges.due("testAll(0) again", yard.testAll(0), 1);
        edges.due("isTested(3)", yard.isTested(3), true);
        edges.due("isTested(0)", yard.isTested(0), false);
    }

    private void dueUntested(String why, SpoolwrightYard yard) {
        edges.due("isTested(0), " + why, yard.isTested(0), false);
    }

    private void tested() {
        edges.says(Edges.TERMS, "A line is tested if it was in a circuit that was tested, and nothing of it changed since:"
            + " no part added or of another length, no other steel, no weld, repair or cut, no look that was bad, no end of"
            + " it joined or parted.");
        SpoolwrightYard yard = Yards.ofTested();
        edges.due("isTested(0)", yard.isTested(0), true);
        edges.due("isTested(1), in no circuit", yard.isTested(1), false);
        yard.addCircuit(2);
        edges.due("isTested(1), its circuit not tested", yard.isTested(1), false);
    }

    private void testedUntilParts() {
        SpoolwrightYard part = Yards.ofTested();
        part.addPart(0, 'v', 0);
        dueUntested("a part added", part);
        SpoolwrightYard length = Yards.ofTested();
        length.setLength(0, 2, 101);
        dueUntested("of another length", length);
        length.setLength(0, 2, 100);
        dueUntested("of the length before", length);
        SpoolwrightYard steel = Yards.ofTested();
        steel.give(0, 0, 1);
        dueUntested("other steel", steel);
        steel.give(0, 0, 0);
        dueUntested("the steel before", steel);
    }

    private void testedUntilWelds() {
        SpoolwrightYard yard = Yards.ofTested();
        yard.look(0, 1, false);
        dueUntested("a bad look", yard);
        yard.repair(0, 1, 0);
        dueUntested("a repair", yard);
        yard.look(0, 1, true);
        dueUntested("a good look behind it", yard);
        edges.due("testAll(0)", yard.testAll(0), 1);
        edges.due("isTested(0) anew", yard.isTested(0), true);
        SpoolwrightYard cut = Yards.ofTested();
        cut.look(0, 1, false);
        Yards.repairAndFail(cut, 1);
        Yards.repairAndFail(cut, 1);
        cut.cutOut(0, 1);
        dueUntested("a cut", cut);
        Yards.weldAndLook(cut, 1, true);
        dueUntested("a weld and a good look", cut);
        edges.due("testAll(0)", cut.testAll(0), 1);
    }

    private void testedUntilEnds() {
        for (boolean isLast : new boolean[] {false, true}) {
            SpoolwrightYard yard = Yards.ofTested();
            Yards.blindBoth(yard, 1, true);
            yard.testAll(yard.addCircuit(2));
            Yards.blindBoth(yard, 0, false);
            Yards.blindBoth(yard, 1, false);
            edges.due("isTested(0), blinds off", yard.isTested(0), true);
            yard.join(0, isLast, 1, !isLast);
            dueUntested("joined", yard);
            edges.due("isTested(1), joined", yard.isTested(1), false);
            yard.blind(0, !isLast, true);
            yard.blind(1, isLast, true);
            edges.due("testAll, joined", yard.testAll(yard.addCircuit(3)), 2);
            yard.join(1, !isLast, 0, isLast);
            dueUntested("parted", yard);
            edges.due("isTested(1), parted", yard.isTested(1), false);
        }
    }

    private void testedInspite() {
        SpoolwrightYard yard = Yards.ofTested();
        yard.look(0, 1, true);
        Yards.blindBoth(yard, 0, false);
        yard.losePaper(0);
        yard.ticket(0, 0, 0);
        yard.pass(99);
        yard.addLine(3);
        yard.addPart(1, 's', 100);
        yard.addCircuit(7);
        yard.ahead(1, 0);
        yard.join(1, true, 2, true);
        edges.refused("setLength(0, 0, 100)", yard, Checks.UNSUPPORTED, () -> yard.setLength(0, 0, 100));
        edges.refused("give(0, 0, 0)", yard, Checks.UNSUPPORTED, () -> yard.give(0, 0, 0));
        edges.due("isTested(0), nothing of it changed", yard.isTested(0), true);
    }
}
