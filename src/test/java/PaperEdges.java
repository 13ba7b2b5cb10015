/** The boundaries of changes, papers and turnovers: promises 35 to 40, and what the terms say of them. */
final class PaperEdges {
    private static final String KINDS = "spwblti";

    private final Edges edges;

    PaperEdges(Edges edges) {
        this.edges = edges;
    }

    void run() {
        changes();
        changesOfNewOnes();
        lacksFirst();
        lacksBeforeOthers();
        lack();
        lacks();
        aheadOfThemselves();
        ahead();
        aheadRefused();
        ready();
        readyByHoweverMany();
        turnover();
    }

    private void changes() {
        edges.says(Edges.TERMS, "As a straight part gets another length, or a part other steel, its joints that are not new"
            + " are undone: new, without repairs; these are counted.");
        SpoolwrightYard yard = Yards.ofLines(1);
        Yards.addWelded(yard, 0, 10);
        yard.give(0, 0, 1);
        edges.due("undone(), the first part", yard.undone(), 1);
        yard.setLength(0, 9, 200);
        edges.due("undone(), the last part", yard.undone(), 2);
        yard.look(0, 4, true);
        yard.look(0, 5, false);
        Yards.repairAndFail(yard, 5);
        yard.repair(0, 5, 0);
        yard.setLength(0, 5, 200);
        edges.due("undone(), both joints of a part", yard.undone(), 4);
        edges.due("joint(0, 4)", yard.joint(0, 4), 'n');
        edges.due("joint(0, 5)", yard.joint(0, 5), 'n');
        edges.due("joint(0, 3)", yard.joint(0, 3), 'w');
        edges.due("joint(0, 6)", yard.joint(0, 6), 'w');
        yard.give(0, 5, 0);
        Yards.weldAndLook(yard, 5, false);
        edges.due("repair(0, 5, 0), without repairs", yard.repair(0, 5, 0), 1);
    }

    private void changesOfNewOnes() {
        SpoolwrightYard yard = Yards.ofLines(2);
        yard.addPart(0, 's', 100);
        yard.give(0, 0, 0);
        yard.setLength(0, 0, 200);
        edges.due("undone(), a part without joints", yard.undone(), 0);
        Yards.addWelded(yard, 1, 3);
        yard.setLength(1, 1, 200);
        edges.due("undone()", yard.undone(), 2);
        yard.give(1, 1, 1);
        yard.setLength(1, 0, 200);
        edges.due("undone(), new ones do not count", yard.undone(), 2);
        yard.setLength(1, 1, 100);
        yard.give(1, 1, 0);
        yard.give(1, 0, 0);
        yard.weld(1, 0, 0);
        yard.give(1, 1, 1);
        edges.due("undone(), one of two new", yard.undone(), 3);
        SpoolwrightYard bad = Yards.ofClass(1, 2);
        Yards.spoil(bad, 0);
        bad.setLength(0, 0, 200);
        edges.due("undone(), a bad one", bad.undone(), 1);
        edges.refused("cutOut(0, 0), new", bad, Checks.UNSUPPORTED, () -> bad.cutOut(0, 0));
    }

    private void lacksFirst() {
        edges.says(Edges.TERMS, "Of a joint lacks first: 's' steel of one of its parts, 'p' a paper of the heat of one of"
            + " them, 'w' a weld, 'b' it is bad, 'l' its line has too few looks, 't' its line is not tested, 'i' a blind is"
            + " on an end of its line, otherwise '-' nothing.");
        for (int last = 0; last < 2; last++) {
            SpoolwrightYard yard = Yards.ofLines(1);
            yard.addPart(0, 's', 100);
            yard.addPart(0, 's', 100);
            yard.addHeat(0, 100, false);
            yard.give(0, last, 0);
            edges.due("lack(0, 0), steel of one", yard.lack(0, 0), 's');
            yard.give(0, 1 - last, 2);
            edges.due("lack(0, 0), a paper of one", yard.lack(0, 0), 'p');
            yard.give(0, 1 - last, 1);
            edges.due("lack(0, 0), a weld", yard.lack(0, 0), 'w');
            yard.weld(0, 0, 0);
            edges.due("lack(0, 0), looks", yard.lack(0, 0), 'l');
            yard.look(0, 0, true);
            edges.due("lack(0, 0), a test", yard.lack(0, 0), 't');
            Yards.blindBoth(yard, 0, true);
            yard.testAll(yard.addCircuit(1));
            yard.blind(0, last == 0, false);
            edges.due("lack(0, 0), a blind on one end", yard.lack(0, 0), 'i');
            yard.blind(0, last == 1, false);
            edges.due("lack(0, 0), nothing", yard.lack(0, 0), '-');
        }
    }

    private void lacksBeforeOthers() {
        SpoolwrightYard yard = Yards.ofLines(1);
        Yards.finish(yard, 0);
        yard.blind(0, false, true);
        yard.losePaper(0);
        edges.due("lack(0, 0), a paper before a blind", yard.lack(0, 0), 'p');
        yard.setLength(0, 0, 200);
        edges.due("lack(0, 0), steel before a paper", yard.lack(0, 0), 's');
        yard.test(0);
        yard.give(0, 0, 0);
        edges.due("lack(0, 0), a weld before looks", yard.lack(0, 0), 'w');
        Yards.weldAndLook(yard, 0, false);
        edges.due("lack(0, 0), bad before a test", yard.lack(0, 0), 'b');
        yard.addPart(0, 's', 100);
        edges.due("lack(0, 0), bad before looks", yard.lack(0, 0), 'b');
        edges.due("lack(0, 1), steel before looks", yard.lack(0, 1), 's');
        yard.repair(0, 0, 0);
        edges.due("lack(0, 0), looks before a test", yard.lack(0, 0), 'l');
        yard.losePaper(0);
        edges.due("lack(0, 0), a paper before looks", yard.lack(0, 0), 'p');
    }

    /** Joints that lack steel, a paper, a weld, a test or the taking off of a blind first, and one that is bad. */
    private SpoolwrightYard yardOfLacks() {
        SpoolwrightYard yard = Yards.ofLines(4);
        yard.addHeat(0, 100, false);
        for (int part = 0; part < 5; part++) {
            yard.addPart(0, 's', 100);
            yard.give(0, part, part == 1 ? 2 : 0);
        }
        yard.addPart(0, 's', 100);
        yard.weld(0, 3, 0);
        yard.look(0, 3, false);
        Yards.finish(yard, 1);
        Yards.finish(yard, 2);
        Yards.finish(yard, 3);
        yard.blind(2, true, true);
        yard.join(3, true, 1, false);
        yard.join(3, true, 1, false);
        return yard;
    }

    private void lack() {
        edges.says(35, "Returns 's', 'p', 'w', 'b', 'l', 't', 'i' or '-'.");
        SpoolwrightYard yard = yardOfLacks();
        String due = "ppwbs";
        for (int joint = 0; joint < due.length(); joint++) {
            edges.due("lack(0, " + joint + ")", yard.lack(0, joint), due.charAt(joint));
        }
        yard.repair(0, 3, 0);
        edges.due("lack(0, 3), looks", yard.lack(0, 3), 'l');
        edges.due("lack(1, 0), a test", yard.lack(1, 0), 't');
        edges.due("lack(2, 0), a blind", yard.lack(2, 0), 'i');
        yard.blind(2, true, false);
        edges.due("lack(2, 0), nothing", yard.lack(2, 0), '-');
        edges.says(35, "Throws `IndexOutOfBoundsException` if there is no such line or joint");
        edges.noSuchLine("lack", (of, line) -> of.lack(line, 0));
        edges.noSuchJoint("lack", SpoolwrightYard::lack);
    }

    private void dueLacks(SpoolwrightYard yard, int... due) {
        for (int i = 0; i < due.length; i++) {
            edges.due("lacks('" + KINDS.charAt(i) + "')", yard.lacks(KINDS.charAt(i)), due[i]);
        }
    }

    private void lacks() {
        edges.says(36, "`kind`: 's', 'p', 'w', 'b', 'l', 't' or 'i'");
        dueLacks(new SpoolwrightYard(), 0, 0, 0, 0, 0, 0, 0);
        dueLacks(Yards.ofLengths(100), 0, 0, 0, 0, 0, 0, 0);
        dueLacks(Yards.full(), 0, 0, 36, 0, 0, 0, 0);
        SpoolwrightYard yard = yardOfLacks();
        dueLacks(yard, 1, 2, 1, 1, 0, 2, 1);
        yard.repair(0, 3, 0);
        dueLacks(yard, 1, 2, 1, 0, 1, 2, 1);
        edges.says(36, "Throws `IllegalArgumentException` if there is no such kind");
        for (char kind = 0; kind < 300; kind++) {
            char other = kind;
            if (KINDS.indexOf(kind) < 0) {
                edges.refused("lacks of " + (int) kind, yard, Checks.ARGUMENT, () -> yard.lacks(other));
            }
        }
        edges.refused("lacks of the last sign", yard, Checks.ARGUMENT, () -> yard.lacks((char) 65535));
    }

    private void aheadOfThemselves() {
        edges.says(Edges.TERMS, "A line can be told to come ahead of another one, but not so that some come ahead of"
            + " themselves.");
        SpoolwrightYard yard = Yards.ofLines(4);
        yard.ahead(0, 1);
        edges.refused("ahead(1, 0), by one", yard, Checks.UNSUPPORTED, () -> yard.ahead(1, 0));
        yard.ahead(1, 2);
        edges.refused("ahead(2, 0), by two", yard, Checks.UNSUPPORTED, () -> yard.ahead(2, 0));
        yard.ahead(2, 3);
        edges.refused("ahead(3, 0), by three", yard, Checks.UNSUPPORTED, () -> yard.ahead(3, 0));
        edges.due("ahead(0, 3), the same way round", yard.ahead(0, 3), false);
        edges.due("ahead(0, 3) again", yard.ahead(0, 3), true);
        edges.due("ahead(0, 1) again", yard.ahead(0, 1), true);
        SpoolwrightYard back = Yards.ofLines(4);
        back.ahead(3, 2);
        back.ahead(1, 0);
        back.ahead(2, 1);
        edges.refused("ahead(0, 3), told out of order", back, Checks.UNSUPPORTED, () -> back.ahead(0, 3));
        edges.refused("ahead(0, 2)", back, Checks.UNSUPPORTED, () -> back.ahead(0, 2));
        edges.due("ahead(3, 0)", back.ahead(3, 0), false);
        SpoolwrightYard first = Yards.ofLines(3);
        first.ahead(1, 0);
        first.ahead(0, 2);
        edges.refused("ahead(2, 1), by way of the line 0", first, Checks.UNSUPPORTED, () -> first.ahead(2, 1));
    }

    private void ahead() {
        edges.says(38, "Throws `IndexOutOfBoundsException` if there is no such line, for either");
        edges.noSuchLine("ahead", (of, line) -> of.ahead(line, 0));
        edges.noSuchLine("ahead, the second", (of, line) -> of.ahead(0, line));
        edges.says(38, "Throws `IllegalArgumentException` if both are the same");
        SpoolwrightYard yard = Yards.ofLines(4);
        for (int line = 0; line < 4; line++) {
            int same = line;
            edges.refused("ahead of itself", yard, Checks.ARGUMENT, () -> yard.ahead(same, same));
        }
    }

    private void aheadRefused() {
        edges.says(38, "Throws `UnsupportedOperationException` if some would come ahead of themselves");
        SpoolwrightYard yard = Yards.ofLines(4);
        for (int second = 1; second < 4; second++) {
            for (int first = 0; first < second; first++) {
                edges.due("ahead", yard.ahead(first, second), false);
            }
        }
        for (int first = 1; first < 4; first++) {
            for (int second = 0; second < first; second++) {
                int one = first;
                int two = second;
                edges.refused("ahead, the other way", yard, Checks.UNSUPPORTED, () -> yard.ahead(one, two));
            }
        }
    }

    private void ready() {
        edges.says(Edges.TERMS, "A line is ready if it has a joint, nothing lacks of any of them, and all lines that come"
            + " ahead of it, by however many, are ready, too.");
        SpoolwrightYard yard = Yards.ofLines(2);
        edges.due("isReady(0), without parts", yard.isReady(0), false);
        yard.addPart(0, 's', 100);
        edges.due("isReady(0), of one part", yard.isReady(0), false);
        Yards.finish(yard, 1);
        edges.due("isReady(1)", yard.isReady(1), true);
        yard.losePaper(0);
        edges.due("isReady(1), a paper lacks", yard.isReady(1), false);
        yard.test(0);
        yard.ahead(1, 0);
        edges.due("isReady(1), ahead of one that is not", yard.isReady(1), true);
        SpoolwrightYard other = Yards.ofLines(1);
        Yards.finish(other, 0);
        other.addPart(0, 's', 100);
        edges.due("isReady(0), the last joint new", other.isReady(0), false);
    }

    private void readyByHoweverMany() {
        SpoolwrightYard yard = Yards.ofLines(4);
        for (int line = 0; line < 4; line++) {
            Yards.finish(yard, line);
        }
        yard.ahead(2, 3);
        yard.ahead(1, 2);
        yard.ahead(0, 1);
        edges.due("isReady(3), all are", yard.isReady(3), true);
        yard.blind(0, true, true);
        for (int line = 0; line < 4; line++) {
            edges.due("isReady(" + line + "), the first is not", yard.isReady(line), false);
        }
        yard.blind(0, true, false);
        yard.blind(3, true, true);
        for (int line = 0; line < 4; line++) {
            edges.due("isReady(" + line + "), the last is not", yard.isReady(line), line < 3);
        }
        edges.says(39, "Throws `IndexOutOfBoundsException` if there is no such line");
        edges.noSuchLine("isReady", SpoolwrightYard::isReady);
    }

    private void dueTurnovers(SpoolwrightYard yard, int... due) {
        edges.says(40, "`index`: from 0");
        for (int i = 0; i < due.length; i++) {
            edges.due("turnover(" + i + ")", yard.turnover(i), due[i]);
        }
        edges.says(40, "Throws `NoSuchElementException` if there is none");
        for (int none : new int[] {-1, due.length, 31, 32, Integer.MIN_VALUE, Integer.MAX_VALUE}) {
            edges.refused("turnover(" + none + ")", yard, Checks.NONE, () -> yard.turnover(none));
        }
    }

    private void turnover() {
        dueTurnovers(Yards.ofLines(0));
        dueTurnovers(Yards.ofLines(1), 0);
        SpoolwrightYard yard = Yards.ofLines(4);
        dueTurnovers(yard, 0, 1, 2, 3);
        yard.ahead(3, 0);
        dueTurnovers(yard, 1, 2, 3, 0);
        yard.ahead(2, 1);
        dueTurnovers(yard, 2, 1, 3, 0);
        yard.ahead(3, 2);
        dueTurnovers(yard, 3, 0, 2, 1);
        yard.ahead(1, 0);
        dueTurnovers(yard, 3, 2, 1, 0);
    }
}
