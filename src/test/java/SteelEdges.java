/** The boundaries of heats, their papers and the steel of parts: promises 9 to 15, and what the terms say of them. */
final class SteelEdges {
    private final Edges edges;

    SteelEdges(Edges edges) {
        this.edges = edges;
    }

    void run() {
        heats();
        addHeat();
        addHeatRefused();
        papers();
        steelOfParts();
        give();
        heatOf();
        bestHeats();
        bestHeatOfItsOwn();
        bestHeat();
        bestHeatWithout();
    }

    private void heats() {
        edges.says(Edges.TERMS, "At most 8 heats are numbered from 0, each of an alloy, 0 to 3, with a length of steel,"
            + " 100 to 20000, and a paper, unless that was lost.");
        SpoolwrightYard yard = Yards.ofLengths(100);
        for (int i = 0; i < 8; i++) {
            edges.due("addHeat", yard.addHeat(i / 2, i % 2 == 0 ? 100 : 20000, i % 2 == 1), i);
        }
        for (int alloy = 0; alloy < 4; alloy++) {
            edges.due("left of the shortest", yard.left(2 * alloy), 100);
            edges.due("left of the longest", yard.left(2 * alloy + 1), 20000);
            edges.due("bestHeat by the paper", yard.bestHeat(0, 0, alloy), 2 * alloy + 1);
        }
        edges.due("losePaper(7)", yard.losePaper(7), true);
        edges.refused("bestHeat(0, 0, 3), lost", yard, Checks.NONE, () -> yard.bestHeat(0, 0, 3));
    }

    private void addHeat() {
        edges.says(9, "`alloy`: 0 to 3");
        SpoolwrightYard yard = Yards.ofLengths(100);
        edges.due("addHeat(0, 100, true)", yard.addHeat(0, 100, true), 0);
        edges.due("addHeat(3, 100, true)", yard.addHeat(3, 100, true), 1);
        edges.due("bestHeat(0, 0, 0)", yard.bestHeat(0, 0, 0), 0);
        edges.due("bestHeat(0, 0, 3)", yard.bestHeat(0, 0, 3), 1);
        edges.says(9, "`length`: 100 to 20000");
        yard.addHeat(0, 100, true);
        yard.addHeat(0, 20000, true);
        edges.due("left(2)", yard.left(2), 100);
        edges.due("left(3)", yard.left(3), 20000);
        edges.says(10, "Throws `IndexOutOfBoundsException` if there is no such heat");
        edges.noSuchHeat("left", SpoolwrightYard::left);
    }

    private void addHeatRefused() {
        edges.says(9, "Throws `IllegalArgumentException` if a number is out of range");
        SpoolwrightYard yard = new SpoolwrightYard();
        edges.outOfRange("addHeat(.., 100, true)", yard, 0, 3, alloy -> yard.addHeat(alloy, 100, true));
        edges.outOfRange("addHeat(0, .., true)", yard, 100, 20000, length -> yard.addHeat(0, length, true));
        edges.refused("addHeat(0, 0, false)", yard, Checks.ARGUMENT, () -> yard.addHeat(0, 0, false));
        edges.says(9, "Throws `IllegalStateException` if there are 8");
        for (int i = 0; i < 7; i++) {
            yard.addHeat(0, 100, true);
        }
        edges.due("addHeat(3, 20000, false), the eighth", yard.addHeat(3, 20000, false), 7);
        edges.refused("addHeat(0, 100, true), a ninth", yard, Checks.STATE, () -> yard.addHeat(0, 100, true));
        edges.refused("addHeat(3, 20000, false), a ninth", yard, Checks.STATE, () -> yard.addHeat(3, 20000, false));
    }

    private void papers() {
        edges.says(11, "Throws `IndexOutOfBoundsException` if there is no such heat");
        edges.noSuchHeat("losePaper", SpoolwrightYard::losePaper);
        edges.says(12, "Throws `IndexOutOfBoundsException` if there is no such heat");
        edges.noSuchHeat("test", SpoolwrightYard::test);
        edges.says(Edges.TERMS, "A test of a heat makes a paper for it.");
        SpoolwrightYard yard = Yards.full();
        edges.due("test(7) that never had one", yard.test(7), false);
        edges.due("test(7) again", yard.test(7), true);
        edges.due("losePaper(7)", yard.losePaper(7), true);
        edges.due("losePaper(7) again", yard.losePaper(7), false);
        edges.due("test(7), lost", yard.test(7), false);
        edges.due("bestHeat(0, 0, 0), the one heat with enough left", yard.bestHeat(0, 0, 0), 7);
    }

    private void steelOfParts() {
        edges.says(Edges.TERMS, "A part gets its steel from one heat, as much as its length, what it had before going"
            + " back.");
        SpoolwrightYard yard = Yards.ofKinds("sse", 6000, 100, 0);
        yard.addHeat(0, 6000, true);
        yard.addHeat(1, 6400, true);
        edges.due("give(0, 0, 0), all that is left", yard.give(0, 0, 0), 0);
        edges.due("give(0, 0, 1)", yard.give(0, 0, 1), 400);
        edges.due("left(0), all back", yard.left(0), 6000);
        edges.due("give(0, 1, 1)", yard.give(0, 1, 1), 300);
        edges.due("give(0, 2, 1), an elbow of 300", yard.give(0, 2, 1), 0);
        edges.due("give(0, 0, 0), as the other is used up", yard.give(0, 0, 0), 0);
        edges.due("left(1)", yard.left(1), 6000);
        edges.due("setLength(0, 0, 5999)", yard.setLength(0, 0, 5999), 6000);
        edges.due("left(0), as long as it was", yard.left(0), 6000);
    }

    private void give() {
        edges.says(13, "Throws `IndexOutOfBoundsException` if there is no such line, part or heat");
        edges.noSuchLine("give", (of, line) -> of.give(line, 0, 7));
        edges.noSuchPart("give", (of, line, part) -> of.give(line, part, 7));
        edges.noSuchHeat("give", (of, heat) -> of.give(0, 0, heat));
        edges.says(13, "Throws `UnsupportedOperationException` if it has steel of that heat, or not enough is left");
        SpoolwrightYard yard = Yards.ofLengths(500, 500);
        yard.addHeat(0, 499, true);
        yard.addHeat(0, 500, true);
        yard.addHeat(0, 1000, true);
        edges.refused("give(0, 0, 0), one too short", yard, Checks.UNSUPPORTED, () -> yard.give(0, 0, 0));
        edges.due("give(0, 0, 1), just enough", yard.give(0, 0, 1), 0);
        edges.refused("give(0, 0, 1), of that heat", yard, Checks.UNSUPPORTED, () -> yard.give(0, 0, 1));
        edges.refused("give(0, 1, 1), none left", yard, Checks.UNSUPPORTED, () -> yard.give(0, 1, 1));
        edges.refused("give(0, 0, 0), still too short", yard, Checks.UNSUPPORTED, () -> yard.give(0, 0, 0));
        edges.due("give(0, 0, 2)", yard.give(0, 0, 2), 500);
        edges.refused("give(0, 0, 2), enough left", yard, Checks.UNSUPPORTED, () -> yard.give(0, 0, 2));
        yard.setLength(0, 0, 501);
        edges.due("give(0, 0, 2), taken off before", yard.give(0, 0, 2), 499);
    }

    private void heatOf() {
        edges.says(14, "Throws `IndexOutOfBoundsException` if there is no such line or part");
        edges.noSuchLine("heatOf", (of, line) -> of.heatOf(line, 0));
        edges.noSuchPart("heatOf", SpoolwrightYard::heatOf);
        edges.says(14, "Throws `NoSuchElementException` if it has none");
        SpoolwrightYard yard = Yards.ofLengths(100);
        edges.refused("heatOf(0, 0), no heat at all", yard, Checks.NONE, () -> yard.heatOf(0, 0));
        yard.addHeat(0, 100, true);
        edges.refused("heatOf(0, 0), not given", yard, Checks.NONE, () -> yard.heatOf(0, 0));
        yard.give(0, 0, 0);
        edges.due("heatOf(0, 0)", yard.heatOf(0, 0), 0);
        yard.setLength(0, 0, 200);
        edges.refused("heatOf(0, 0), gone back", yard, Checks.NONE, () -> yard.heatOf(0, 0));
    }

    private void bestHeats() {
        edges.says(Edges.TERMS, "The best heat for a part, of an alloy, is that with the least steel left of those that"
            + " have enough left and a paper, that of its own steel like others, of like ones the lowest.");
        SpoolwrightYard yard = Yards.ofLengths(1000, 200);
        yard.addHeat(2, 999, true);
        yard.addHeat(2, 1001, true);
        yard.addHeat(2, 1000, false);
        yard.addHeat(1, 1000, true);
        yard.addHeat(2, 1001, true);
        edges.due("bestHeat(0, 0, 2), the lowest of like ones", yard.bestHeat(0, 0, 2), 1);
        yard.test(2);
        edges.due("bestHeat(0, 0, 2), just enough", yard.bestHeat(0, 0, 2), 2);
        yard.losePaper(2);
        yard.losePaper(1);
        edges.due("bestHeat(0, 0, 2), the other of like ones", yard.bestHeat(0, 0, 2), 4);
        yard.give(0, 1, 4);
        edges.refused("bestHeat(0, 0, 2), too little left", yard, Checks.NONE, () -> yard.bestHeat(0, 0, 2));
        yard.setLength(0, 1, 100);
        edges.due("bestHeat(0, 0, 2), back", yard.bestHeat(0, 0, 2), 4);
    }

    private void bestHeatOfItsOwn() {
        SpoolwrightYard yard = Yards.ofLengths(500);
        yard.addHeat(0, 500, true);
        yard.addHeat(0, 1000, true);
        yard.give(0, 0, 1);
        edges.due("bestHeat(0, 0, 0) of like ones, the last its own", yard.bestHeat(0, 0, 0), 0);
        yard.losePaper(0);
        edges.due("bestHeat(0, 0, 0), its own with just enough left", yard.bestHeat(0, 0, 0), 1);
        yard.losePaper(1);
        edges.refused("bestHeat(0, 0, 0), its own without a paper", yard, Checks.NONE, () -> yard.bestHeat(0, 0, 0));
        SpoolwrightYard other = Yards.ofLengths(500);
        other.addHeat(0, 999, true);
        other.give(0, 0, 0);
        edges.refused("bestHeat(0, 0, 0), its own with too little left", other, Checks.NONE,
            () -> other.bestHeat(0, 0, 0));
        other.addHeat(0, 20000, true);
        edges.due("bestHeat(0, 0, 0), another one", other.bestHeat(0, 0, 0), 1);
    }

    private void bestHeat() {
        edges.says(15, "`alloy`: 0 to 3");
        SpoolwrightYard yard = Yards.ofLengths(100);
        for (int alloy = 3; alloy >= 0; alloy--) {
            yard.addHeat(alloy, 100, true);
            edges.due("bestHeat(0, 0, " + alloy + ")", yard.bestHeat(0, 0, alloy), 3 - alloy);
        }
        edges.says(15, "Throws `IndexOutOfBoundsException` if there is no such line or part");
        edges.noSuchLine("bestHeat", (of, line) -> of.bestHeat(line, 0, 0));
        edges.noSuchPart("bestHeat", (of, line, part) -> of.bestHeat(line, part, 0));
        edges.says(15, "Throws `IllegalArgumentException` if a number is out of range");
        edges.outOfRange("bestHeat(0, 0, ..)", yard, 0, 3, alloy -> yard.bestHeat(0, 0, alloy));
    }

    private void bestHeatWithout() {
        edges.says(15, "Throws `NoSuchElementException` if there is none");
        SpoolwrightYard yard = Yards.ofLengths(101);
        edges.refused("bestHeat(0, 0, 0), no heat at all", yard, Checks.NONE, () -> yard.bestHeat(0, 0, 0));
        yard.addHeat(1, 101, true);
        edges.refused("bestHeat(0, 0, 0), of another alloy", yard, Checks.NONE, () -> yard.bestHeat(0, 0, 0));
        yard.addHeat(0, 100, true);
        edges.refused("bestHeat(0, 0, 0), one too short", yard, Checks.NONE, () -> yard.bestHeat(0, 0, 0));
        yard.addHeat(0, 101, false);
        edges.refused("bestHeat(0, 0, 0), without a paper", yard, Checks.NONE, () -> yard.bestHeat(0, 0, 0));
        yard.addHeat(0, 101, true);
        edges.due("bestHeat(0, 0, 0)", yard.bestHeat(0, 0, 0), 3);
    }
}
