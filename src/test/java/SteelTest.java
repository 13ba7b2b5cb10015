/** Promises 9 to 15: heats, their papers, the steel of parts. */
public final class SteelTest {
    private static final Checks CHECKS = new Checks();

    public static void main(String[] args) {
        addHeat();
        left();
        losePaper();
        test();
        give();
        giveUndoes();
        heatOf();
        bestHeat();
        bestHeatOfItsOwn();
        CHECKS.end();
    }

    private static void addHeat() {
        SpoolwrightYard yard = Yards.ofLengths(100);
        CHECKS.refused("9: addHeat(-1, 100, true)", yard, Checks.ARGUMENT, () -> yard.addHeat(-1, 100, true));
        CHECKS.refused("9: addHeat(4, 100, true)", yard, Checks.ARGUMENT, () -> yard.addHeat(4, 100, true));
        CHECKS.refused("9: addHeat(0, 99, true)", yard, Checks.ARGUMENT, () -> yard.addHeat(0, 99, true));
        CHECKS.refused("9: addHeat(0, 20001, true)", yard, Checks.ARGUMENT, () -> yard.addHeat(0, 20001, true));
        CHECKS.due("9: addHeat(0, 100, true)", yard.addHeat(0, 100, true), 0);
        CHECKS.due("9: addHeat(3, 20000, false)", yard.addHeat(3, 20000, false), 1);
        CHECKS.due("9: left(1)", yard.left(1), 20000);
        CHECKS.due("9: bestHeat(0, 0, 0)", yard.bestHeat(0, 0, 0), 0);
        CHECKS.refused("9: bestHeat(0, 0, 3)", yard, Checks.NONE, () -> yard.bestHeat(0, 0, 3));
        for (int i = 2; i < 8; i++) {
            CHECKS.due("9: addHeat(1, 100, true)", yard.addHeat(1, 100, true), i);
        }
        CHECKS.refused("9: addHeat(1, 100, true), a ninth", yard, Checks.STATE, () -> yard.addHeat(1, 100, true));
        CHECKS.refused("9: addHeat(1, 99, true), a ninth", yard, Checks.ARGUMENT, () -> yard.addHeat(1, 99, true));
    }

    private static void left() {
        SpoolwrightYard yard = Yards.ofLengths(700, 300);
        yard.addHeat(0, 1000, true);
        yard.addHeat(0, 500, true);
        CHECKS.due("10: left(0)", yard.left(0), 1000);
        yard.give(0, 0, 0);
        CHECKS.due("10: left(0) behind a part", yard.left(0), 300);
        yard.give(0, 1, 0);
        CHECKS.due("10: left(0) behind both", yard.left(0), 0);
        yard.give(0, 1, 1);
        CHECKS.due("10: left(0) as one is back", yard.left(0), 300);
        CHECKS.due("10: left(1)", yard.left(1), 200);
        CHECKS.refused("10: left(2)", yard, Checks.INDEX, () -> yard.left(2));
        CHECKS.refused("10: left(-1)", yard, Checks.INDEX, () -> yard.left(-1));
    }

    private static void losePaper() {
        SpoolwrightYard yard = Yards.ofLengths(100);
        yard.addHeat(0, 1000, true);
        yard.addHeat(1, 1000, true);
        CHECKS.due("11: losePaper(0)", yard.losePaper(0), true);
        CHECKS.due("11: losePaper(0) again", yard.losePaper(0), false);
        CHECKS.refused("11: bestHeat(0, 0, 0)", yard, Checks.NONE, () -> yard.bestHeat(0, 0, 0));
        CHECKS.due("11: bestHeat(0, 0, 1)", yard.bestHeat(0, 0, 1), 1);
        CHECKS.refused("11: losePaper(2)", yard, Checks.INDEX, () -> yard.losePaper(2));
        CHECKS.refused("11: losePaper(-1)", yard, Checks.INDEX, () -> yard.losePaper(-1));
    }

    private static void test() {
        SpoolwrightYard yard = Yards.ofLengths(100);
        yard.addHeat(0, 1000, false);
        CHECKS.due("12: test(0)", yard.test(0), false);
        CHECKS.due("12: test(0) again", yard.test(0), true);
        CHECKS.due("12: bestHeat(0, 0, 0)", yard.bestHeat(0, 0, 0), 0);
        yard.losePaper(0);
        CHECKS.due("12: test(0) as its paper is lost", yard.test(0), false);
        CHECKS.refused("12: test(1)", yard, Checks.INDEX, () -> yard.test(1));
        CHECKS.refused("12: test(-1)", yard, Checks.INDEX, () -> yard.test(-1));
    }

    private static void give() {
        SpoolwrightYard yard = Yards.ofLengths(700, 300);
        yard.addPart(0, 'e', 1);
        yard.addHeat(0, 1000, false);
        yard.addHeat(3, 699, true);
        CHECKS.refused("13: give(1, 0, 0)", yard, Checks.INDEX, () -> yard.give(1, 0, 0));
        CHECKS.refused("13: give(0, 3, 0)", yard, Checks.INDEX, () -> yard.give(0, 3, 0));
        CHECKS.refused("13: give(0, -1, 0)", yard, Checks.INDEX, () -> yard.give(0, -1, 0));
        CHECKS.refused("13: give(0, 0, 2)", yard, Checks.INDEX, () -> yard.give(0, 0, 2));
        CHECKS.refused("13: give(0, 0, -1)", yard, Checks.INDEX, () -> yard.give(0, 0, -1));
        CHECKS.refused("13: give(0, 0, 1)", yard, Checks.UNSUPPORTED, () -> yard.give(0, 0, 1));
        CHECKS.due("13: give(0, 0, 0)", yard.give(0, 0, 0), 300);
        CHECKS.refused("13: give(0, 0, 0) again", yard, Checks.UNSUPPORTED, () -> yard.give(0, 0, 0));
        CHECKS.due("13: give(0, 1, 0), all that is left", yard.give(0, 1, 0), 0);
        CHECKS.refused("13: give(0, 2, 0)", yard, Checks.UNSUPPORTED, () -> yard.give(0, 2, 0));
        CHECKS.due("13: give(0, 1, 1)", yard.give(0, 1, 1), 399);
        CHECKS.due("13: left(0)", yard.left(0), 300);
        CHECKS.due("13: give(0, 2, 0), an elbow", yard.give(0, 2, 0), 0);
    }

    private static void giveUndoes() {
        SpoolwrightYard yard = Yards.ofLengths(100, 100, 100, 100);
        yard.addHeat(0, 1000, true);
        yard.addHeat(0, 1000, true);
        yard.addWelder();
        yard.ticket(0, 0, 0);
        for (int part = 0; part < 4; part++) {
            yard.give(0, part, 0);
        }
        CHECKS.due("13: undone() behind the first steel", yard.undone(), 0);
        for (int joint = 0; joint < 3; joint++) {
            yard.weld(0, joint, 0);
        }
        yard.look(0, 0, false);
        yard.repair(0, 0, 0);
        yard.look(0, 1, true);
        yard.give(0, 1, 1);
        CHECKS.due("13: undone()", yard.undone(), 2);
        CHECKS.due("13: joint(0, 0)", yard.joint(0, 0), 'n');
        CHECKS.due("13: joint(0, 1)", yard.joint(0, 1), 'n');
        CHECKS.due("13: joint(0, 2)", yard.joint(0, 2), 'w');
        yard.weld(0, 0, 0);
        yard.look(0, 0, false);
        CHECKS.due("13: repair(0, 0, 0), the first anew", yard.repair(0, 0, 0), 1);
    }

    private static void heatOf() {
        SpoolwrightYard yard = Yards.ofLengths(100, 200);
        yard.addHeat(0, 1000, true);
        yard.addHeat(1, 1000, true);
        CHECKS.refused("14: heatOf(0, 0)", yard, Checks.NONE, () -> yard.heatOf(0, 0));
        yard.give(0, 0, 1);
        CHECKS.due("14: heatOf(0, 0)", yard.heatOf(0, 0), 1);
        yard.give(0, 0, 0);
        CHECKS.due("14: heatOf(0, 0) behind another", yard.heatOf(0, 0), 0);
        CHECKS.refused("14: heatOf(0, 1)", yard, Checks.NONE, () -> yard.heatOf(0, 1));
        CHECKS.refused("14: heatOf(0, 2)", yard, Checks.INDEX, () -> yard.heatOf(0, 2));
        CHECKS.refused("14: heatOf(0, -1)", yard, Checks.INDEX, () -> yard.heatOf(0, -1));
        CHECKS.refused("14: heatOf(1, 0)", yard, Checks.INDEX, () -> yard.heatOf(1, 0));
    }

    private static void bestHeat() {
        SpoolwrightYard yard = Yards.ofLengths(500);
        CHECKS.refused("15: bestHeat(0, 0, 0)", yard, Checks.NONE, () -> yard.bestHeat(0, 0, 0));
        yard.addHeat(0, 499, true);
        yard.addHeat(0, 900, true);
        yard.addHeat(0, 600, false);
        yard.addHeat(1, 500, true);
        CHECKS.due("15: bestHeat(0, 0, 0)", yard.bestHeat(0, 0, 0), 1);
        yard.test(2);
        CHECKS.due("15: bestHeat(0, 0, 0) with a paper more", yard.bestHeat(0, 0, 0), 2);
        yard.addHeat(0, 600, true);
        CHECKS.due("15: bestHeat(0, 0, 0) of like ones", yard.bestHeat(0, 0, 0), 2);
        CHECKS.due("15: bestHeat(0, 0, 1), just enough", yard.bestHeat(0, 0, 1), 3);
        CHECKS.refused("15: bestHeat(0, 0, 2)", yard, Checks.NONE, () -> yard.bestHeat(0, 0, 2));
        CHECKS.refused("15: bestHeat(0, 0, 4)", yard, Checks.ARGUMENT, () -> yard.bestHeat(0, 0, 4));
        CHECKS.refused("15: bestHeat(0, 0, -1)", yard, Checks.ARGUMENT, () -> yard.bestHeat(0, 0, -1));
        CHECKS.refused("15: bestHeat(0, 1, 4)", yard, Checks.INDEX, () -> yard.bestHeat(0, 1, 4));
        CHECKS.refused("15: bestHeat(1, 0, 0)", yard, Checks.INDEX, () -> yard.bestHeat(1, 0, 0));
    }

    private static void bestHeatOfItsOwn() {
        SpoolwrightYard yard = Yards.ofLengths(500);
        yard.addHeat(0, 999, true);
        yard.addHeat(0, 2000, true);
        yard.give(0, 0, 0);
        CHECKS.due("15: bestHeat(0, 0, 0) as its own has too little left", yard.bestHeat(0, 0, 0), 1);
        yard.give(0, 0, 1);
        CHECKS.due("15: bestHeat(0, 0, 0) of more", yard.bestHeat(0, 0, 0), 0);
        yard.addHeat(1, 1500, true);
        yard.give(0, 0, 2);
        CHECKS.due("15: bestHeat(0, 0, 1), its own", yard.bestHeat(0, 0, 1), 2);
    }
}
