/** Yards that tests of several promises start from, and ways to bring them further. */
final class Yards {
    /** Lines without parts, two heats of the alloy 0, and a welder with a ticket for it. */
    static SpoolwrightYard ofLines(int count) {
        SpoolwrightYard yard = new SpoolwrightYard();
        yard.addHeat(0, 20000, true);
        yard.addHeat(0, 20000, true);
        yard.addWelder();
        yard.ticket(0, 0, 999);
        for (int i = 0; i < count; i++) {
            yard.addLine(1);
        }
        return yard;
    }

    /** One line of such parts, without steel. */
    static SpoolwrightYard ofKinds(String kinds, int... lengths) {
        SpoolwrightYard yard = new SpoolwrightYard();
        yard.addLine(1);
        for (int i = 0; i < kinds.length(); i++) {
            yard.addPart(0, kinds.charAt(i), lengths[i]);
        }
        return yard;
    }

    /** One line of straight parts of these lengths, without steel. */
    static SpoolwrightYard ofLengths(int... lengths) {
        return ofKinds("s".repeat(lengths.length), lengths);
    }

    /** One line of parts of 100 each, with steel of the alloy 0, and a welder with a ticket for it up to the day 10. */
    static SpoolwrightYard ofClass(int number, int parts) {
        SpoolwrightYard yard = new SpoolwrightYard();
        yard.addLine(number);
        yard.addHeat(0, 20000, true);
        yard.addWelder();
        yard.ticket(0, 0, 10);
        for (int part = 0; part < parts; part++) {
            yard.addPart(0, 's', 100);
            yard.give(0, part, 0);
        }
        return yard;
    }

    /** As many lines, parts, heats and welders as can be, each part with the steel of the heat of its line's number. */
    static SpoolwrightYard full() {
        SpoolwrightYard yard = new SpoolwrightYard();
        for (int heat = 0; heat < 8; heat++) {
            yard.addHeat(0, 5000, heat < 4);
        }
        for (int welder = 0; welder < 5; welder++) {
            yard.addWelder();
            yard.ticket(welder, 0, 999);
        }
        for (int line = 0; line < 4; line++) {
            yard.addLine(3);
            for (int part = 0; part < 10; part++) {
                yard.addPart(line, 's', 500);
                yard.give(line, part, line);
            }
        }
        return yard;
    }

    /** Parts behind those of the line, with steel of the heat 0, and all joints of them welded. */
    static void addWelded(SpoolwrightYard yard, int line, int parts) {
        for (int i = 0; i < parts; i++) {
            int part = yard.addPart(line, 's', 100);
            yard.give(line, part, 0);
            if (part > 0) {
                yard.weld(line, part - 1, 0);
            }
        }
    }

    static void weldAndLook(SpoolwrightYard yard, int joint, boolean isGood) {
        yard.weld(0, joint, 0);
        yard.look(0, joint, isGood);
    }

    static void repairAndFail(SpoolwrightYard yard, int joint) {
        yard.repair(0, joint, 0);
        yard.look(0, joint, false);
    }

    /** A new joint, bad behind two repairs. */
    static void spoil(SpoolwrightYard yard, int joint) {
        weldAndLook(yard, joint, false);
        repairAndFail(yard, joint);
        repairAndFail(yard, joint);
    }

    static void blindBoth(SpoolwrightYard yard, int line, boolean is) {
        yard.blind(line, false, is);
        yard.blind(line, true, is);
    }

    /** One line of three parts with a look that was good, tested in the circuit 0, its blinds on; a second one. */
    static SpoolwrightYard ofTested() {
        SpoolwrightYard yard = ofLines(2);
        addWelded(yard, 0, 3);
        yard.look(0, 0, true);
        blindBoth(yard, 0, true);
        yard.addCircuit(1);
        yard.testAll(0);
        return yard;
    }

    /** Two parts, their joint good, the line tested without the blinds left on. */
    static void finish(SpoolwrightYard yard, int line) {
        addWelded(yard, line, 2);
        yard.look(line, 0, true);
        blindBoth(yard, line, true);
        yard.testAll(yard.addCircuit(1 << line));
        blindBoth(yard, line, false);
    }
}
