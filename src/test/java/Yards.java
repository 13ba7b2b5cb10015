/** Yards that tests of several promises start from. */
final class Yards {
    /** Lines without parts, two heats of the alloy 0, and a welder with a ticket for it. */
    static SpoolwrightYard ofLines(int count) {
        SpoolwrightYard yard = new SpoolwrightYard();
        yard.addHeat(0, 20000, true);
        yard.addHeat(0, 20000, true);
        yard.addWelder();
        yard.ticket(0, 0, 999);
        for (int i = 0; i < count; i++) {
            yard.addLine(1);
        }
        return yard;
    }
}
