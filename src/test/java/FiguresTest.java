/** Promises 41 to 44: the checksum, shares, means, soundness. */
public final class FiguresTest {
    private static final Checks CHECKS = new Checks();

    public static void main(String[] args) {
        checksum();
        checksumOfManyWraps();
        doneShare();
        meanSpool();
        isSound();
        fullYard();
        CHECKS.end();
    }

    private static SpoolwrightYard yardOf(int parts) {
        SpoolwrightYard yard = new SpoolwrightYard();
        yard.addHeat(0, 20000, true);
        yard.addHeat(0, 500, true);
        yard.addWelder();
        yard.ticket(0, 0, 999);
        yard.addLine(1);
        for (int part = 0; part < parts; part++) {
            yard.addPart(0, 's', 100);
            yard.give(0, part, 0);
        }
        return yard;
    }

    private static long sum(long... numbers) {
        long sum = 7;
        for (long number : numbers) {
            sum = 31 * sum + number;
        }
        return sum;
    }

    private static void checksum() {
        SpoolwrightYard yard = yardOf(5);
        CHECKS.due("41: checksum()", yard.checksum(), sum('n', 'n', 'n', 'n', 19500, 500, 0, 0));
        yard.addLine(2);
        yard.addPart(1, 'v', 0);
        yard.addPart(1, 'v', 0);
        yard.weld(0, 0, 0);
        yard.weld(0, 1, 0);
        yard.look(0, 1, true);
        yard.weld(0, 2, 0);
        yard.look(0, 2, false);
        yard.pass(99);
        CHECKS.due("41: checksum(), all kinds", yard.checksum(),
            sum('w', 'g', 'b', 'n', 'n', 19500, 500, 0, 99));
        yard.give(0, 2, 1);
        CHECKS.due("41: checksum(), undone", yard.checksum(),
            sum('w', 'n', 'n', 'n', 'n', 19600, 400, 2, 99));
    }

    private static void checksumOfManyWraps() {
        SpoolwrightYard yard = new SpoolwrightYard();
        long due = 7;
        for (int line = 0; line < 4; line++) {
            yard.addLine(1);
            for (int part = 0; part < 10; part++) {
                yard.addPart(line, 'e', 0);
                due = part == 0 ? due : 31 * due + 'n';
            }
        }
        CHECKS.due("41: checksum() of 36 joints", yard.checksum(), 31 * (31 * due));
    }

    private static void doneShare() {
        SpoolwrightYard yard = yardOf(1);
        CHECKS.refused("42: doneShare() without joints", yard, Checks.ARITHMETIC, yard::doneShare);
        yard.addPart(0, 's', 100);
        yard.give(0, 1, 0);
        yard.addLine(1);
        CHECKS.due("42: doneShare()", yard.doneShare(), 0.0f);
        yard.weld(0, 0, 0);
        yard.look(0, 0, true);
        yard.blind(0, false, true);
        yard.blind(0, true, true);
        yard.addCircuit(1);
        yard.testAll(0);
        CHECKS.due("42: doneShare(), blinds on", yard.doneShare(), 0.0f);
        yard.blind(0, false, false);
        yard.blind(0, true, false);
        CHECKS.due("42: doneShare(), done", yard.doneShare(), 1.0f);
        yard.addPart(1, 'v', 0);
        yard.addPart(1, 'v', 0);
        yard.addPart(1, 'v', 0);
        CHECKS.due("42: doneShare(), one of three", yard.doneShare(), 1.0f / 3.0f);
    }

    private static void meanSpool() {
        SpoolwrightYard yard = new SpoolwrightYard();
        CHECKS.refused("43: meanSpool(0) without a line", yard, Checks.INDEX, () -> yard.meanSpool(0));
        yard.addLine(1);
        CHECKS.refused("43: meanSpool(0) without parts", yard, Checks.ARITHMETIC, () -> yard.meanSpool(0));
        yard.addPart(0, 's', 101);
        CHECKS.due("43: meanSpool(0) of one", yard.meanSpool(0), 101.0);
        for (int i = 0; i < 4; i++) {
            yard.addPart(0, 's', 6000);
        }
        CHECKS.due("43: meanSpool(0) of three", yard.meanSpool(0), 24101.0 / 3.0);
        CHECKS.refused("43: meanSpool(1)", yard, Checks.INDEX, () -> yard.meanSpool(1));
        CHECKS.refused("43: meanSpool(-1)", yard, Checks.INDEX, () -> yard.meanSpool(-1));
    }

    private static void isSound() {
        SpoolwrightYard yard = new SpoolwrightYard();
        CHECKS.due("44: isSound()", yard.isSound(), true);
        yard = yardOf(3);
        CHECKS.due("44: isSound(), steel given", yard.isSound(), true);
        yard.weld(0, 0, 0);
        yard.weld(0, 1, 0);
        yard.look(0, 0, false);
        yard.give(0, 2, 1);
        yard.setLength(0, 1, 250);
        CHECKS.due("44: isSound(), changes", yard.isSound(), true);
        yard.addLine(2);
        yard.join(0, true, 1, false);
        yard.blind(1, true, true);
        yard.ahead(1, 0);
        CHECKS.due("44: isSound(), ends and turnovers", yard.isSound(), true);
        yard.join(0, true, 1, false);
        yard.losePaper(0);
        CHECKS.due("44: isSound(), parted", yard.isSound(), true);
    }

    /** Each loop has to end with the last row where all rows are taken. */
    private static void fullYard() {
        SpoolwrightYard yard = Yards.full();
        CHECKS.refused("15: bestHeat(3, 9, 0), full", yard, Checks.NONE, () -> yard.bestHeat(3, 9, 0));
        CHECKS.due("36: lacks('w'), full", yard.lacks('w'), 36);
        for (int joint = 0; joint < 9; joint++) {
            for (int line = 0; line < 4; line++) {
                CHECKS.due("19: weld, full", yard.weld(line, joint, 4), joint + 1);
                CHECKS.due("20: look, full", yard.look(line, joint, true), 'g');
            }
        }
        for (int line = 0; line < 4; line++) {
            yard.join(line, true, (line + 1) % 4, false);
        }
        for (int circuit = 0; circuit < 6; circuit++) {
            CHECKS.due("30: addCircuit(15), full", yard.addCircuit(15), circuit);
        }
        CHECKS.due("31: open(5), full", yard.open(5), 0);
        CHECKS.due("33: testAll(5), full", yard.testAll(5), 4);
        for (int line = 3; line > 0; line--) {
            yard.ahead(line, line - 1);
        }
        CHECKS.due("40: turnover(3), full", yard.turnover(3), 0);
        CHECKS.due("39: isReady(0), full", yard.isReady(0), true);
        CHECKS.due("42: doneShare(), full", yard.doneShare(), 1.0f);
        CHECKS.due("44: isSound(), full", yard.isSound(), true);
        CHECKS.due("5: length(3), full", yard.length(3), 5000);
    }
}
