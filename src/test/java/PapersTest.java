/** Promises 35 to 40: what lacks, what was undone, turnovers. */
public final class PapersTest {
    private static final Checks CHECKS = new Checks();
    private static final String KINDS = "spwblti";

    public static void main(String[] args) {
        lack();
        lackInOrder();
        lackOfThePaperOfEither();
        lacks();
        undone();
        ahead();
        isReady();
        isReadyBehindOthers();
        turnover();
        CHECKS.end();
    }

    private static void lack() {
        SpoolwrightYard yard = Yards.ofLines(1);
        yard.addPart(0, 's', 100);
        CHECKS.refused("35: lack(0, 0) of one part", yard, Checks.INDEX, () -> yard.lack(0, 0));
        yard.addPart(0, 's', 100);
        yard.addCircuit(1);
        CHECKS.due("35: lack(0, 0)", yard.lack(0, 0), 's');
        yard.give(0, 1, 0);
        CHECKS.due("35: lack(0, 0), steel of one", yard.lack(0, 0), 's');
        yard.give(0, 0, 0);
        CHECKS.due("35: lack(0, 0), steel of both", yard.lack(0, 0), 'w');
        yard.weld(0, 0, 0);
        CHECKS.due("35: lack(0, 0), welded", yard.lack(0, 0), 'l');
        yard.look(0, 0, false);
        CHECKS.due("35: lack(0, 0), bad", yard.lack(0, 0), 'b');
        yard.repair(0, 0, 0);
        CHECKS.due("35: lack(0, 0), repaired", yard.lack(0, 0), 'l');
        yard.look(0, 0, true);
        CHECKS.due("35: lack(0, 0), good", yard.lack(0, 0), 't');
        yard.blind(0, false, true);
        CHECKS.due("35: lack(0, 0), a blind but no test", yard.lack(0, 0), 't');
        yard.blind(0, true, true);
        yard.testAll(0);
        CHECKS.due("35: lack(0, 0), tested", yard.lack(0, 0), 'i');
        yard.blind(0, true, false);
        CHECKS.due("35: lack(0, 0), the first blind on", yard.lack(0, 0), 'i');
        yard.blind(0, false, false);
        CHECKS.due("35: lack(0, 0), blinds off", yard.lack(0, 0), '-');
        yard.blind(0, true, true);
        CHECKS.due("35: lack(0, 0), the last blind on", yard.lack(0, 0), 'i');
        CHECKS.refused("35: lack(0, 1)", yard, Checks.INDEX, () -> yard.lack(0, 1));
        CHECKS.refused("35: lack(0, -1)", yard, Checks.INDEX, () -> yard.lack(0, -1));
        CHECKS.refused("35: lack(1, 0)", yard, Checks.INDEX, () -> yard.lack(1, 0));
    }

    private static void lackInOrder() {
        SpoolwrightYard yard = Yards.ofLines(1);
        Yards.finish(yard, 0);
        yard.blind(0, true, true);
        yard.losePaper(0);
        CHECKS.due("35: lack(0, 0), paper before blind", yard.lack(0, 0), 'p');
        yard.setLength(0, 0, 200);
        CHECKS.due("35: lack(0, 0), steel before paper", yard.lack(0, 0), 's');
        yard.give(0, 0, 1);
        CHECKS.due("35: lack(0, 0), paper before weld", yard.lack(0, 0), 'p');
        yard.test(0);
        CHECKS.due("35: lack(0, 0), weld before looks", yard.lack(0, 0), 'w');
        yard.weld(0, 0, 0);
        yard.look(0, 0, false);
        yard.losePaper(1);
        CHECKS.due("35: lack(0, 0), paper before bad", yard.lack(0, 0), 'p');
    }

    private static void lackOfThePaperOfEither() {
        SpoolwrightYard yard = Yards.ofLines(1);
        yard.addPart(0, 's', 100);
        yard.addPart(0, 's', 100);
        yard.give(0, 0, 0);
        yard.give(0, 1, 1);
        yard.losePaper(0);
        CHECKS.due("35: lack(0, 0), no paper of the first", yard.lack(0, 0), 'p');
        yard.test(0);
        yard.losePaper(1);
        CHECKS.due("35: lack(0, 0), no paper of the second", yard.lack(0, 0), 'p');
        yard.test(1);
        CHECKS.due("35: lack(0, 0), both papers", yard.lack(0, 0), 'w');
    }

    private static void dueLacks(SpoolwrightYard yard, String when, int... due) {
        for (int i = 0; i < due.length; i++) {
            CHECKS.due("36: lacks('" + KINDS.charAt(i) + "'), " + when, yard.lacks(KINDS.charAt(i)), due[i]);
        }
    }

    private static void lacks() {
        SpoolwrightYard yard = Yards.ofLines(2);
        dueLacks(yard, "no joints", 0, 0, 0, 0, 0, 0, 0);
        Yards.finish(yard, 0);
        dueLacks(yard, "one done", 0, 0, 0, 0, 0, 0, 0);
        for (int part = 0; part < 6; part++) {
            yard.addPart(1, 's', 100);
        }
        dueLacks(yard, "no steel", 5, 0, 0, 0, 0, 0, 0);
        for (int part = 0; part < 5; part++) {
            yard.give(1, part, 1);
        }
        dueLacks(yard, "one without steel", 1, 0, 4, 0, 0, 0, 0);
        yard.weld(1, 0, 0);
        yard.weld(1, 1, 0);
        yard.look(1, 1, false);
        dueLacks(yard, "welded and bad", 1, 0, 2, 1, 1, 0, 0);
        yard.blind(0, true, true);
        dueLacks(yard, "a blind", 1, 0, 2, 1, 1, 0, 1);
        yard.join(0, false, 1, true);
        dueLacks(yard, "no test", 1, 0, 2, 1, 1, 1, 0);
        yard.losePaper(1);
        dueLacks(yard, "no paper", 1, 4, 0, 0, 0, 1, 0);
        CHECKS.refused("36: lacks('-')", yard, Checks.ARGUMENT, () -> yard.lacks('-'));
        CHECKS.refused("36: lacks('n')", yard, Checks.ARGUMENT, () -> yard.lacks('n'));
        CHECKS.refused("36: lacks(0)", yard, Checks.ARGUMENT, () -> yard.lacks((char) 0));
    }

    private static void undone() {
        SpoolwrightYard yard = Yards.ofLines(1);
        Yards.finish(yard, 0);
        yard.addPart(0, 's', 100);
        yard.give(0, 2, 0);
        CHECKS.due("37: undone()", yard.undone(), 0);
        yard.weld(0, 1, 0);
        yard.give(0, 1, 1);
        CHECKS.due("37: undone(), both joints of a part", yard.undone(), 2);
        yard.give(0, 1, 0);
        CHECKS.due("37: undone(), new ones do not count", yard.undone(), 2);
        yard.weld(0, 1, 0);
        yard.setLength(0, 0, 200);
        CHECKS.due("37: undone(), a part beside a new one", yard.undone(), 2);
        yard.setLength(0, 2, 200);
        CHECKS.due("37: undone(), the last part", yard.undone(), 3);
    }

    private static void ahead() {
        SpoolwrightYard yard = Yards.ofLines(4);
        CHECKS.refused("38: ahead(4, 0)", yard, Checks.INDEX, () -> yard.ahead(4, 0));
        CHECKS.refused("38: ahead(0, 4)", yard, Checks.INDEX, () -> yard.ahead(0, 4));
        CHECKS.refused("38: ahead(-1, -1)", yard, Checks.INDEX, () -> yard.ahead(-1, -1));
        CHECKS.refused("38: ahead(2, 2)", yard, Checks.ARGUMENT, () -> yard.ahead(2, 2));
        CHECKS.due("38: ahead(0, 1)", yard.ahead(0, 1), false);
        CHECKS.due("38: ahead(0, 1) again", yard.ahead(0, 1), true);
        CHECKS.refused("38: ahead(1, 0)", yard, Checks.UNSUPPORTED, () -> yard.ahead(1, 0));
        CHECKS.due("38: ahead(3, 0)", yard.ahead(3, 0), false);
        CHECKS.due("38: ahead(1, 2)", yard.ahead(1, 2), false);
        CHECKS.refused("38: ahead(2, 3), by two", yard, Checks.UNSUPPORTED, () -> yard.ahead(2, 3));
        CHECKS.refused("38: ahead(2, 0)", yard, Checks.UNSUPPORTED, () -> yard.ahead(2, 0));
        CHECKS.due("38: ahead(0, 2), told by way of 1 only", yard.ahead(0, 2), false);
        CHECKS.due("38: ahead(0, 2) again", yard.ahead(0, 2), true);
    }

    private static void isReady() {
        SpoolwrightYard yard = Yards.ofLines(2);
        CHECKS.due("39: isReady(0) without parts", yard.isReady(0), false);
        Yards.finish(yard, 0);
        CHECKS.due("39: isReady(0)", yard.isReady(0), true);
        yard.blind(0, true, true);
        CHECKS.due("39: isReady(0), a blind on", yard.isReady(0), false);
        yard.blind(0, true, false);
        yard.addPart(0, 's', 100);
        CHECKS.due("39: isReady(0), a part added", yard.isReady(0), false);
        CHECKS.refused("39: isReady(2)", yard, Checks.INDEX, () -> yard.isReady(2));
        CHECKS.refused("39: isReady(-1)", yard, Checks.INDEX, () -> yard.isReady(-1));
    }

    private static void isReadyBehindOthers() {
        SpoolwrightYard yard = Yards.ofLines(4);
        for (int line = 0; line < 3; line++) {
            Yards.finish(yard, line);
        }
        yard.ahead(1, 2);
        yard.ahead(2, 0);
        CHECKS.due("39: isReady(0), all ready", yard.isReady(0), true);
        yard.ahead(3, 1);
        CHECKS.due("39: isReady(0), one far ahead is not", yard.isReady(0), false);
        CHECKS.due("39: isReady(1)", yard.isReady(1), false);
        CHECKS.due("39: isReady(2)", yard.isReady(2), false);
        yard.addPart(3, 's', 100);
        CHECKS.due("39: isReady(1), one ahead without a joint", yard.isReady(1), false);
        SpoolwrightYard other = Yards.ofLines(2);
        Yards.finish(other, 0);
        other.ahead(0, 1);
        CHECKS.due("39: isReady(0), one behind does not matter", other.isReady(0), true);
    }

    private static void dueTurnovers(SpoolwrightYard yard, int... due) {
        for (int i = 0; i < due.length; i++) {
            CHECKS.due("40: turnover(" + i + ")", yard.turnover(i), due[i]);
        }
        CHECKS.refused("40: turnover(" + due.length + ")", yard, Checks.NONE, () -> yard.turnover(due.length));
        CHECKS.refused("40: turnover(-1)", yard, Checks.NONE, () -> yard.turnover(-1));
    }

    private static void turnover() {
        SpoolwrightYard yard = Yards.ofLines(0);
        dueTurnovers(yard);
        for (int line = 0; line < 4; line++) {
            yard.addLine(1);
        }
        dueTurnovers(yard, 0, 1, 2, 3);
        yard.ahead(2, 0);
        dueTurnovers(yard, 1, 2, 0, 3);
        yard.ahead(3, 2);
        dueTurnovers(yard, 1, 3, 2, 0);
        yard.ahead(0, 1);
        dueTurnovers(yard, 3, 2, 0, 1);
    }
}
