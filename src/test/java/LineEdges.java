/** The boundaries of lines, parts and spools: promises 1 to 8, and what the terms say of them. */
final class LineEdges {
    private static final char[] NO_KINDS = {0, ' ', 'S', 'E', 'V', 'a', 'd', 'f', 'r', 't', 'u', 'w', 'z', 255, 65535};

    private final Edges edges;

    LineEdges(Edges edges) {
        this.edges = edges;
    }

    void run() {
        newYard();
        lines();
        addLine();
        parts();
        joints();
        addPart();
        addPartRefused();
        setLength();
        setLengthRefused();
        length();
        spoolsByLength();
        spoolsByElbows();
        fewestSpools();
        spoolsAndTheirParts();
        shopAndField();
    }

    private void dueSpools(SpoolwrightYard yard, int... due) {
        for (int part = 0; part < due.length; part++) {
            edges.due("spoolOf(0, " + part + ")", yard.spoolOf(0, part), due[part]);
        }
        edges.due("spools(0)", yard.spools(0), due[due.length - 1] + 1);
    }

    private void newYard() {
        edges.says(1, "Creates a yard without lines, heats and welders, on the day 0.");
        SpoolwrightYard yard = new SpoolwrightYard();
        edges.refused("length(0)", yard, Checks.INDEX, () -> yard.length(0));
        edges.refused("left(0)", yard, Checks.INDEX, () -> yard.left(0));
        edges.refused("failed(0)", yard, Checks.INDEX, () -> yard.failed(0));
        edges.refused("open(0)", yard, Checks.INDEX, () -> yard.open(0));
        edges.refused("turnover(0)", yard, Checks.NONE, () -> yard.turnover(0));
        edges.due("undone()", yard.undone(), 0);
        edges.due("isSound()", yard.isSound(), true);
        edges.due("pass(1)", yard.pass(1), 1);
    }

    private void lines() {
        edges.says(Edges.TERMS, "At most 4 lines are numbered from 0, each of a class, 1 to 3.");
        SpoolwrightYard yard = new SpoolwrightYard();
        for (int i = 0; i < 4; i++) {
            edges.due("addLine", yard.addLine(i < 3 ? i + 1 : 1), i);
        }
        for (int i = 0; i < 40; i++) {
            yard.addPart(i / 10, 'v', 0);
        }
        edges.due("toLook(0) of class 1", yard.toLook(0), 1);
        edges.due("toLook(1) of class 2", yard.toLook(1), 2);
        edges.due("toLook(2) of class 3", yard.toLook(2), 9);
        edges.due("toLook(3) of class 1", yard.toLook(3), 1);
    }

    private void addLine() {
        edges.says(2, "Adds a line without parts.");
        SpoolwrightYard yard = new SpoolwrightYard();
        yard.addLine(1);
        edges.due("length(0)", yard.length(0), 0);
        edges.refused("spoolOf(0, 0)", yard, Checks.INDEX, () -> yard.spoolOf(0, 0));
        edges.says(2, "`number`: the class, 1 to 3");
        edges.due("addLine(1)", new SpoolwrightYard().addLine(1), 0);
        edges.due("addLine(3)", new SpoolwrightYard().addLine(3), 0);
        edges.says(2, "Throws `IllegalArgumentException` if a number is out of range");
        edges.outOfRange("addLine", yard, 1, 3, yard::addLine);
        edges.says(2, "Throws `IllegalStateException` if there are 4");
        yard.addLine(1);
        yard.addLine(1);
        edges.due("addLine(1), the fourth", yard.addLine(1), 3);
        for (int number = 1; number <= 3; number++) {
            int more = number;
            edges.refused("addLine, a fifth", yard, Checks.STATE, () -> yard.addLine(more));
        }
    }

    private void parts() {
        edges.says(Edges.TERMS, "A line has at most 10 parts, numbered from 0: 's' straight, with a length of 100 to 6000,"
            + " or 'e' an elbow, 'v' a valve, both with the length 300, whatever is told.");
        SpoolwrightYard yard = Yards.ofKinds("sevse", 100, 100, 6000, 6000, 299);
        edges.due("length(0)", yard.length(0), 7000);
        for (int part = 5; part < 10; part++) {
            edges.due("addPart", yard.addPart(0, 's', 6000), part);
        }
        edges.due("length(0) of ten", yard.length(0), 37000);
    }

    private void joints() {
        edges.says(Edges.TERMS, "The joint k of a line is between the parts k and k + 1.");
        for (int joint = 0; joint < 9; joint++) {
            SpoolwrightYard yard = Yards.ofLengths(100, 100, 100, 100, 100, 100, 100, 100, 100, 100);
            yard.addHeat(0, 200, true);
            yard.give(0, joint, 0);
            yard.give(0, joint + 1, 0);
            for (int other = 0; other < 9; other++) {
                edges.due("lack(0, " + other + ")", yard.lack(0, other), other == joint ? 'w' : 's');
            }
        }
        SpoolwrightYard one = Yards.ofLengths(100);
        edges.refused("joint(0, 0) of one part", one, Checks.INDEX, () -> one.joint(0, 0));
    }

    private void addPart() {
        edges.says(3, "`kind`: 's', 'e' or 'v'");
        for (char kind : new char[] {'s', 'e', 'v'}) {
            edges.due("addPart, " + kind, Yards.ofKinds("").addPart(0, kind, 100), 0);
        }
        edges.says(3, "`length`: of 's' 100 to 6000, otherwise any number");
        SpoolwrightYard yard = Yards.ofKinds("");
        edges.due("addPart(0, 's', 100)", yard.addPart(0, 's', 100), 0);
        edges.due("addPart(0, 's', 6000)", yard.addPart(0, 's', 6000), 1);
        edges.due("addPart(0, 'e', MIN)", yard.addPart(0, 'e', Integer.MIN_VALUE), 2);
        edges.due("addPart(0, 'e', MAX)", yard.addPart(0, 'e', Integer.MAX_VALUE), 3);
        edges.due("addPart(0, 'v', 99)", yard.addPart(0, 'v', 99), 4);
        edges.due("addPart(0, 'v', 6001)", yard.addPart(0, 'v', 6001), 5);
        edges.due("length(0)", yard.length(0), 7300);
        edges.says(3, "Throws `IndexOutOfBoundsException` if there is no such line");
        edges.noSuchLine("addPart", (of, line) -> of.addPart(line, 's', 100));
    }

    private void addPartRefused() {
        edges.says(3, "Throws `IllegalArgumentException` if there is no such kind, or a number is out of range");
        SpoolwrightYard yard = Yards.ofKinds("sev", 100, 0, 0);
        for (char kind : NO_KINDS) {
            edges.refused("addPart, sign " + (int) kind, yard, Checks.ARGUMENT, () -> yard.addPart(0, kind, 300));
        }
        edges.outOfRange("addPart(0, 's', ..)", yard, 100, 6000, length -> yard.addPart(0, 's', length));
        edges.refused("addPart(0, 's', 0)", yard, Checks.ARGUMENT, () -> yard.addPart(0, 's', 0));
        edges.says(3, "Throws `IllegalStateException` if there are 10");
        for (int part = 3; part < 10; part++) {
            edges.due("addPart(0, 'e', 0)", yard.addPart(0, 'e', 0), part);
        }
        for (char kind : new char[] {'s', 'e', 'v'}) {
            edges.refused("addPart(0, ..), an eleventh", yard, Checks.STATE, () -> yard.addPart(0, kind, 100));
        }
        yard.addLine(1);
        edges.due("addPart(1, 's', 100), another line", yard.addPart(1, 's', 100), 0);
    }

    private void setLength() {
        edges.says(4, "`length`: 100 to 6000");
        SpoolwrightYard yard = Yards.ofLengths(3000, 3000);
        edges.due("setLength(0, 1, 100)", yard.setLength(0, 1, 100), 3000);
        edges.due("setLength(0, 1, 6000)", yard.setLength(0, 1, 6000), 100);
        edges.due("length(0)", yard.length(0), 9000);
        edges.says(4, "Throws `IndexOutOfBoundsException` if there is no such line or part");
        edges.noSuchLine("setLength", (of, line) -> of.setLength(line, 0, 999));
        edges.noSuchPart("setLength", (of, line, part) -> of.setLength(line, part, 999));
    }

    private void setLengthRefused() {
        edges.says(4, "Throws `IllegalArgumentException` if a number is out of range");
        SpoolwrightYard yard = Yards.ofKinds("sevs", 100, 0, 0, 6000);
        edges.outOfRange("setLength(0, 0, ..)", yard, 100, 6000, length -> yard.setLength(0, 0, length));
        edges.outOfRange("setLength(0, 3, ..)", yard, 100, 6000, length -> yard.setLength(0, 3, length));
        edges.says(4, "Throws `UnsupportedOperationException` if it is not straight, or has that length");
        for (int part = 1; part <= 2; part++) {
            for (int length : new int[] {100, 300, 6000}) {
                int other = part;
                edges.refused("setLength, not straight", yard, Checks.UNSUPPORTED,
                    () -> yard.setLength(0, other, length));
            }
        }
        edges.refused("setLength(0, 0, 100)", yard, Checks.UNSUPPORTED, () -> yard.setLength(0, 0, 100));
        edges.refused("setLength(0, 3, 6000)", yard, Checks.UNSUPPORTED, () -> yard.setLength(0, 3, 6000));
        edges.due("setLength(0, 0, 300)", yard.setLength(0, 0, 300), 100);
        edges.refused("setLength(0, 0, 300)", yard, Checks.UNSUPPORTED, () -> yard.setLength(0, 0, 300));
        edges.due("setLength(0, 0, 100), back", yard.setLength(0, 0, 100), 300);
    }

    private void length() {
        edges.says(5, "Throws `IndexOutOfBoundsException` if there is no such line");
        edges.noSuchLine("length", SpoolwrightYard::length);
        edges.due("length(3), the last", Yards.full().length(3), 5000);
    }

    private void spoolsByLength() {
        edges.says(Edges.TERMS, "A spool are parts right behind one another with a length of 12000 or less, together, and"
            + " 2 elbows or fewer.");
        dueSpools(Yards.ofLengths(6000, 5900, 100), 0, 0, 0);
        dueSpools(Yards.ofLengths(6000, 5901, 100), 0, 0, 1);
        dueSpools(Yards.ofLengths(100, 6000, 5901), 0, 0, 1);
        dueSpools(Yards.ofLengths(6000, 6000, 6000, 5900, 100), 0, 0, 1, 1, 1);
        dueSpools(Yards.ofLengths(6000, 6000, 6000, 5900, 101), 0, 0, 1, 1, 2);
        dueSpools(Yards.ofKinds("sv", 6000, 0), 0, 0);
        dueSpools(Yards.ofKinds("ssv", 6000, 5700, 0), 0, 0, 0);
        dueSpools(Yards.ofKinds("ssv", 6000, 5701, 0), 0, 0, 1);
    }

    private void spoolsByElbows() {
        dueSpools(Yards.ofKinds("ee", 0, 0), 0, 0);
        dueSpools(Yards.ofKinds("eee", 0, 0, 0), 0, 0, 1);
        dueSpools(Yards.ofKinds("eveve", 0, 0, 0, 0, 0), 0, 0, 0, 0, 1);
        dueSpools(Yards.ofKinds("eevse", 0, 0, 0, 100, 0), 0, 0, 0, 0, 1);
        dueSpools(Yards.ofKinds("eeeee", 0, 0, 0, 0, 0), 0, 0, 1, 1, 2);
        dueSpools(Yards.ofKinds("seses", 5700, 0, 5600, 0, 100), 0, 0, 0, 0, 0);
        dueSpools(Yards.ofKinds("seses", 5700, 0, 5600, 0, 101), 0, 0, 0, 0, 1);
        dueSpools(Yards.ofKinds("vvvvvvvvvv", 0, 0, 0, 0, 0, 0, 0, 0, 0, 0), 0, 0, 0, 0, 0, 0, 0, 0, 0, 0);
    }

    private void fewestSpools() {
        edges.says(Edges.TERMS, "A line is cut into the fewest spools, of like cuts that whose first spool has the most"
            + " parts, then the next one, and so on.");
        dueSpools(Yards.ofLengths(6000, 3000, 3000, 6000), 0, 0, 0, 1);
        dueSpools(Yards.ofLengths(6000, 6000, 3000, 6000, 3000, 6000), 0, 0, 1, 1, 1, 2);
        dueSpools(Yards.ofLengths(100, 100, 100, 6000, 6000, 100), 0, 0, 0, 0, 1, 1);
        dueSpools(Yards.ofLengths(6000, 6000, 6000, 6000, 6000, 6000, 6000, 6000, 6000, 6000),
            0, 0, 1, 1, 2, 2, 3, 3, 4, 4);
        dueSpools(Yards.ofKinds("eeeeeeeeee", 0, 0, 0, 0, 0, 0, 0, 0, 0, 0), 0, 0, 1, 1, 2, 2, 3, 3, 4, 4);
    }

    private void spoolsAndTheirParts() {
        edges.says(6, "Returns how many, 0 without parts.");
        SpoolwrightYard yard = Yards.ofKinds("");
        edges.due("spools(0)", yard.spools(0), 0);
        yard.addPart(0, 's', 100);
        edges.due("spools(0) of one part", yard.spools(0), 1);
        edges.says(6, "Throws `IndexOutOfBoundsException` if there is no such line");
        edges.noSuchLine("spools", SpoolwrightYard::spools);
        edges.says(7, "Returns the spool, numbered from 0.");
        edges.due("spoolOf(0, 0)", yard.spoolOf(0, 0), 0);
        edges.says(7, "Throws `IndexOutOfBoundsException` if there is no such line or part");
        edges.noSuchLine("spoolOf", (of, line) -> of.spoolOf(line, 0));
        edges.noSuchPart("spoolOf", SpoolwrightYard::spoolOf);
    }

    private void shopAndField() {
        edges.says(Edges.TERMS, "Joints within a spool are welded in the shop, those between spools in the field.");
        SpoolwrightYard yard = Yards.ofLengths(6000, 6000, 100, 6000, 5900, 100);
        boolean[] due = {false, true, false, false, true};
        for (int joint = 0; joint < due.length; joint++) {
            edges.due("isField(0, " + joint + ")", yard.isField(0, joint), due[joint]);
        }
        yard.setLength(0, 1, 5900);
        edges.due("isField(0, 1) as its spool just holds it", yard.isField(0, 1), false);
        edges.due("isField(0, 2) as the spool is full", yard.isField(0, 2), true);
        edges.says(8, "Throws `IndexOutOfBoundsException` if there is no such line or joint");
        edges.noSuchLine("isField", (of, line) -> of.isField(line, 0));
        edges.noSuchJoint("isField", SpoolwrightYard::isField);
    }
}
