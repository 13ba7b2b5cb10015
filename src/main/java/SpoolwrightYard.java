import java.util.NoSuchElementException;

/** Pipe lines of a plant that is not built yet, from the steel to the turnover. */
public final class SpoolwrightYard {
    private static final int MAX_LINES = 4;
    private static final int MAX_PARTS = 10;
    private static final int MAX_HEATS = 8;
    private static final int MAX_WELDERS = 5;
    private static final int MAX_CIRCUITS = 6;
    private static final int MAX_CIRCUIT_BITS = 15;
    private static final int MAX_GRADE = 3;
    private static final int ALLOYS = 4;
    private static final int LAST_DAY = 999;
    private static final int MAX_PASS = 99;
    private static final int NO_TICKET = -1;
    private static final int NO_LINE = -1;

    private static final int SHORTEST_PART = 100;
    private static final int LONGEST_PART = 6000;
    private static final int FITTING_LENGTH = 300;
    private static final int SHORTEST_HEAT = 100;
    private static final int LONGEST_HEAT = 20000;
    private static final int LONGEST_SPOOL = 12000;
    private static final int MOST_ELBOWS = 2;
    private static final int MOST_REPAIRS = 2;
    private static final int LOOKS_FOR_A_BAD_ONE = 2;

    private static final char STRAIGHT = 's';
    private static final char ELBOW = 'e';
    private static final char VALVE = 'v';

    private static final char NEW = 'n';
    private static final char WELDED = 'w';
    private static final char GOOD = 'g';
    private static final char BAD = 'b';

    private static final char LACKS_STEEL = 's';
    private static final char LACKS_PAPER = 'p';
    private static final char LACKS_WELD = 'w';
    private static final char LACKS_GOODNESS = 'b';
    private static final char LACKS_LOOKS = 'l';
    private static final char LACKS_TEST = 't';
    private static final char LACKS_FREE_ENDS = 'i';
    private static final char LACKS_NOTHING = '-';

    // Every row stands from the start, so that no call has to make one.
    private final Line[] lines = new Line[MAX_LINES];
    private final Heat[] heats = new Heat[MAX_HEATS];
    private final Welder[] welders = new Welder[MAX_WELDERS];
    private final int[] circuits = new int[MAX_CIRCUITS];
    private int lineCount;
    private int heatCount;
    private int welderCount;
    private int circuitCount;
    private int today;
    private int undoneJoints;
    private int cutJoints;

    public SpoolwrightYard() {
        for (int i = 0; i < MAX_LINES; i++) {
            lines[i] = new Line(i);
        }
        for (int i = 0; i < MAX_HEATS; i++) {
            heats[i] = new Heat(i);
        }
        for (int i = 0; i < MAX_WELDERS; i++) {
            welders[i] = new Welder(i);
        }
    }

    // ---- lines, parts, spools

    public int addLine(int number) throws IllegalArgumentException, IllegalStateException {
        if (number < 1 || number > MAX_GRADE) {
            throw new IllegalArgumentException("no such class of a line");
        }
        if (lineCount >= MAX_LINES) {
            throw new IllegalStateException("no room for a line");
        }
        lines[lineCount].lookShare = lookShareOf(number);
        lineCount++;
        return lineCount - 1;
    }

    public int addPart(int line, char kind, int length)
            throws IndexOutOfBoundsException, IllegalArgumentException, IllegalStateException {
        Line its = lineAt(line);
        if (kind != STRAIGHT && kind != ELBOW && kind != VALVE) {
            throw new IllegalArgumentException("no such kind of a part");
        }
        if (kind == STRAIGHT && !isPartLength(length)) {
            throw new IllegalArgumentException("no such length of a part");
        }
        if (its.partCount >= MAX_PARTS) {
            throw new IllegalStateException("no room for a part");
        }
        its.append(kind, kind == STRAIGHT ? length : FITTING_LENGTH);
        return its.partCount - 1;
    }

    public int setLength(int line, int part, int length)
            throws IndexOutOfBoundsException, IllegalArgumentException, UnsupportedOperationException {
        Part changed = partAt(line, part);
        if (!isPartLength(length)) {
            throw new IllegalArgumentException("no such length of a part");
        }
        if (changed.kind != STRAIGHT || changed.size == length) {
            throw new UnsupportedOperationException("no other length for this part");
        }
        int before = changed.size;
        changed.returnSteel();
        changed.size = length;
        lines[line].wasTested = false;
        undoneJoints += lines[line].undoBeside(part);
        return before;
    }

    public int length(int line) throws IndexOutOfBoundsException {
        return lineAt(line).totalSize();
    }

    public int spools(int line) throws IndexOutOfBoundsException {
        return lineAt(line).spoolCount();
    }

    public int spoolOf(int line, int part) throws IndexOutOfBoundsException {
        checkPart(line, part);
        return lines[line].spoolWith(part);
    }

    public boolean isField(int line, int joint) throws IndexOutOfBoundsException {
        checkJoint(line, joint);
        return lines[line].spoolWith(joint) != lines[line].spoolWith(joint + 1);
    }

    // ---- steel

    public int addHeat(int alloy, int length, boolean hasPaper)
            throws IllegalArgumentException, IllegalStateException {
        if (!isAlloy(alloy) || length < SHORTEST_HEAT || length > LONGEST_HEAT) {
            throw new IllegalArgumentException("no such alloy or length of a heat");
        }
        if (heatCount >= MAX_HEATS) {
            throw new IllegalStateException("no room for a heat");
        }
        Heat added = heats[heatCount];
        added.alloy = alloy;
        added.size = length;
        added.rest = length;
        added.hasPaper = hasPaper;
        heatCount++;
        return added.number;
    }

    public int left(int heat) throws IndexOutOfBoundsException {
        return heatAt(heat).rest;
    }

    public boolean losePaper(int heat) throws IndexOutOfBoundsException {
        return heatAt(heat).putPaper(false);
    }

    public boolean test(int heat) throws IndexOutOfBoundsException {
        return heatAt(heat).putPaper(true);
    }

    public int give(int line, int part, int heat)
            throws IndexOutOfBoundsException, UnsupportedOperationException {
        Part taker = partAt(line, part);
        Heat giver = heatAt(heat);
        if (taker.heat == giver || giver.rest < taker.size) {
            throw new UnsupportedOperationException("no steel of this heat for this part");
        }
        taker.returnSteel();
        taker.takeSteel(giver);
        lines[line].wasTested = false;
        undoneJoints += lines[line].undoBeside(part);
        return giver.rest;
    }

    public int heatOf(int line, int part) throws IndexOutOfBoundsException, NoSuchElementException {
        Heat its = partAt(line, part).heat;
        if (its == null) {
            throw new NoSuchElementException("no steel");
        }
        return its.number;
    }

    public int bestHeat(int line, int part, int alloy)
            throws IndexOutOfBoundsException, IllegalArgumentException, NoSuchElementException {
        Part taker = partAt(line, part);
        if (!isAlloy(alloy)) {
            throw new IllegalArgumentException("no such alloy");
        }
        Heat best = null;
        for (int i = 0; i < heatCount; i++) {
            Heat next = heats[i];
            if (next.canServe(taker.size, alloy) && (best == null || next.rest < best.rest)) {
                best = next;
            }
        }
        if (best == null) {
            throw new NoSuchElementException("no heat for this part");
        }
        return best.number;
    }

    // ---- welders, welds, looks

    public int addWelder() throws IllegalStateException {
        if (welderCount >= MAX_WELDERS) {
            throw new IllegalStateException("no room for a welder");
        }
        welderCount++;
        return welderCount - 1;
    }

    public int ticket(int welder, int alloy, int day) throws IndexOutOfBoundsException, IllegalArgumentException {
        Welder its = welderAt(welder);
        if (!isAlloy(alloy) || day < 0 || day > LAST_DAY) {
            throw new IllegalArgumentException("no such alloy or day");
        }
        int before = its.tickets[alloy];
        its.tickets[alloy] = day;
        return before;
    }

    public boolean mayWeld(int line, int joint, int welder) throws IndexOutOfBoundsException {
        checkJoint(line, joint);
        return isAllowed(lines[line], joint, welderAt(welder));
    }

    public int weld(int line, int joint, int welder)
            throws IndexOutOfBoundsException, UnsupportedOperationException {
        Joint its = jointAt(line, joint);
        Welder by = welderAt(welder);
        if (its.state != NEW || !isAllowed(lines[line], joint, by)) {
            throw new UnsupportedOperationException("this joint cannot be welded");
        }
        its.fuse(by);
        lines[line].wasTested = false;
        return lines[line].countNotNew();
    }

    public char look(int line, int joint, boolean isGood)
            throws IndexOutOfBoundsException, UnsupportedOperationException {
        Joint its = jointAt(line, joint);
        if (its.state != WELDED || its.welder == null) {
            throw new UnsupportedOperationException("this joint is not welded");
        }
        its.state = isGood ? GOOD : BAD;
        if (!isGood) {
            its.welder.badLooks++;
            lines[line].badLooks++;
            lines[line].wasTested = false;
        }
        return its.state;
    }

    public int repair(int line, int joint, int welder)
            throws IndexOutOfBoundsException, UnsupportedOperationException {
        Joint its = jointAt(line, joint);
        Welder by = welderAt(welder);
        if (its.state != BAD || its.repairs >= MOST_REPAIRS || !isAllowed(lines[line], joint, by)) {
            throw new UnsupportedOperationException("this joint cannot be repaired");
        }
        its.fuse(by);
        its.repairs++;
        lines[line].wasTested = false;
        return its.repairs;
    }

    public int cutOut(int line, int joint) throws IndexOutOfBoundsException, UnsupportedOperationException {
        Joint its = jointAt(line, joint);
        if (its.state != BAD || its.repairs < MOST_REPAIRS) {
            throw new UnsupportedOperationException("this joint cannot be cut out");
        }
        its.renew();
        lines[line].wasTested = false;
        cutJoints++;
        return cutJoints;
    }

    public char joint(int line, int joint) throws IndexOutOfBoundsException {
        return jointAt(line, joint).state;
    }

    public int welderOf(int line, int joint) throws IndexOutOfBoundsException, NoSuchElementException {
        Welder its = jointAt(line, joint).welder;
        if (its == null) {
            throw new NoSuchElementException("this joint is new");
        }
        return its.number;
    }

    public int toLook(int line) throws IndexOutOfBoundsException {
        return lineAt(line).looksDue();
    }

    public int failed(int welder) throws IndexOutOfBoundsException {
        return welderAt(welder).badLooks;
    }

    public int pass(int days) throws IllegalArgumentException, IllegalStateException {
        if (days < 1 || days > MAX_PASS) {
            throw new IllegalArgumentException("no such number of days");
        }
        if (today + days > LAST_DAY) {
            throw new IllegalStateException("no such day");
        }
        today += days;
        return today;
    }

    // ---- ends, circuits

    public boolean join(int line, boolean isLast, int other, boolean isOtherLast)
            throws IndexOutOfBoundsException, IllegalArgumentException, UnsupportedOperationException {
        End one = lineAt(line).endAt(isLast);
        End two = lineAt(other).endAt(isOtherLast);
        if (line == other) {
            throw new IllegalArgumentException("a line is not joined to itself");
        }
        boolean areJoined = one.mate == two;
        if (!areJoined && !(one.isFree() && two.isFree())) {
            throw new UnsupportedOperationException("these ends cannot be joined");
        }
        one.mate = areJoined ? null : two;
        two.mate = areJoined ? null : one;
        lines[line].wasTested = false;
        lines[other].wasTested = false;
        return !areJoined;
    }

    public boolean blind(int line, boolean isLast, boolean is)
            throws IndexOutOfBoundsException, UnsupportedOperationException {
        End its = lineAt(line).endAt(isLast);
        if (is && its.mate != null) {
            throw new UnsupportedOperationException("this end is joined");
        }
        boolean was = its.hasBlind;
        its.hasBlind = is;
        return was;
    }

    public int addCircuit(int lines) throws IllegalArgumentException, IllegalStateException {
        if (lines < 1 || lines > MAX_CIRCUIT_BITS || lines >> lineCount != 0) {
            throw new IllegalArgumentException("no such lines");
        }
        if (circuitCount >= MAX_CIRCUITS) {
            throw new IllegalStateException("no room for a circuit");
        }
        circuits[circuitCount] = lines;
        circuitCount++;
        return circuitCount - 1;
    }

    public int open(int circuit) throws IndexOutOfBoundsException {
        return countOpenEnds(circuitAt(circuit));
    }

    public boolean canTest(int circuit) throws IndexOutOfBoundsException {
        return isTestable(circuitAt(circuit));
    }

    public int testAll(int circuit) throws IndexOutOfBoundsException, UnsupportedOperationException {
        int bits = circuitAt(circuit);
        if (!isTestable(bits)) {
            throw new UnsupportedOperationException("this circuit cannot be tested");
        }
        int tested = 0;
        for (int i = 0; i < lineCount; i++) {
            if (hasBit(bits, i)) {
                lines[i].wasTested = true;
            }
            if (lines[i].wasTested) {
                tested++;
            }
        }
        return tested;
    }

    public boolean isTested(int line) throws IndexOutOfBoundsException {
        return lineAt(line).wasTested;
    }

    // ---- papers, turnovers

    public char lack(int line, int joint) throws IndexOutOfBoundsException {
        checkJoint(line, joint);
        return lines[line].firstLack(joint);
    }

    public int lacks(char kind) throws IllegalArgumentException {
        if (!isLack(kind)) {
            throw new IllegalArgumentException("no such lack");
        }
        return countLacking(kind);
    }

    public int undone() {
        return undoneJoints;
    }

    public boolean ahead(int first, int second)
            throws IndexOutOfBoundsException, IllegalArgumentException, UnsupportedOperationException {
        checkLine(first);
        Line later = lineAt(second);
        if (first == second) {
            throw new IllegalArgumentException("a line is not ahead of itself");
        }
        if (hasBit(allAheadOf(first), second)) {
            throw new UnsupportedOperationException("a line would come ahead of itself");
        }
        boolean was = hasBit(later.aheadBits, first);
        later.aheadBits |= 1 << first;
        return was;
    }

    public boolean isReady(int line) throws IndexOutOfBoundsException {
        checkLine(line);
        int needed = allAheadOf(line) | 1 << line;
        for (int i = 0; i < lineCount; i++) {
            if (hasBit(needed, i) && !lines[i].isComplete()) {
                return false;
            }
        }
        return true;
    }

    public int turnover(int index) throws NoSuchElementException {
        if (!isLine(index)) {
            throw new NoSuchElementException("no such turnover");
        }
        int over = 0;
        for (int i = 0; i < index; i++) {
            over |= 1 << nextOver(over);
        }
        return nextOver(over);
    }

    // ---- figures

    public long checksum() {
        long sum = 7;
        for (int i = 0; i < lineCount; i++) {
            for (int j = 0; j < lines[i].jointCount(); j++) {
                sum = 31 * sum + lines[i].joints[j].state;
            }
        }
        for (int i = 0; i < heatCount; i++) {
            sum = 31 * sum + heats[i].rest;
        }
        sum = 31 * sum + undoneJoints;
        return 31 * sum + today;
    }

    public float doneShare() throws ArithmeticException {
        int all = 0;
        for (int i = 0; i < lineCount; i++) {
            all += lines[i].jointCount();
        }
        if (all == 0) {
            throw new ArithmeticException("no joints");
        }
        return (float) countLacking(LACKS_NOTHING) / (float) all;
    }

    public double meanSpool(int line) throws IndexOutOfBoundsException, ArithmeticException {
        Line its = lineAt(line);
        int count = its.spoolCount();
        if (count == 0) {
            throw new ArithmeticException("no spools");
        }
        return (double) its.totalSize() / (double) count;
    }

    public boolean isSound() {
        for (int i = 0; i < heatCount; i++) {
            if (heats[i].rest < 0 || heats[i].rest + sizeGivenFrom(heats[i]) != heats[i].size) {
                return false;
            }
        }
        for (int i = 0; i < lineCount; i++) {
            if (!lines[i].areJointsSound() || !lines[i].first.isSoundEnd() || !lines[i].last.isSoundEnd()
                    || hasBit(allAheadOf(i), i)) {
                return false;
            }
        }
        return true;
    }

    // ---- rows by number

    private boolean isLine(int line) {
        return line >= 0 && line < lineCount;
    }

    private void checkLine(int line) {
        if (!isLine(line)) {
            throw new IndexOutOfBoundsException("no such line");
        }
    }

    private void checkPart(int line, int part) {
        checkLine(line);
        if (part < 0 || part >= lines[line].partCount) {
            throw new IndexOutOfBoundsException("no such part");
        }
    }

    private void checkJoint(int line, int joint) {
        checkLine(line);
        if (joint < 0 || joint >= lines[line].jointCount()) {
            throw new IndexOutOfBoundsException("no such joint");
        }
    }

    private Line lineAt(int line) {
        checkLine(line);
        return lines[line];
    }

    private Part partAt(int line, int part) {
        checkPart(line, part);
        return lines[line].parts[part];
    }

    private Joint jointAt(int line, int joint) {
        checkJoint(line, joint);
        return lines[line].joints[joint];
    }

    private Heat heatAt(int heat) {
        if (heat < 0 || heat >= heatCount) {
            throw new IndexOutOfBoundsException("no such heat");
        }
        return heats[heat];
    }

    private Welder welderAt(int welder) {
        if (welder < 0 || welder >= welderCount) {
            throw new IndexOutOfBoundsException("no such welder");
        }
        return welders[welder];
    }

    private int circuitAt(int circuit) {
        if (circuit < 0 || circuit >= circuitCount) {
            throw new IndexOutOfBoundsException("no such circuit");
        }
        return circuits[circuit];
    }

    // ---- what holds

    private static int lookShareOf(int grade) {
        if (grade == 1) {
            return 5;
        }
        return grade == 2 ? 20 : 100;
    }

    private static boolean isPartLength(int length) {
        return length >= SHORTEST_PART && length <= LONGEST_PART;
    }

    private static boolean isAlloy(int alloy) {
        return alloy >= 0 && alloy < ALLOYS;
    }

    private static boolean isLack(char kind) {
        return kind == LACKS_STEEL || kind == LACKS_PAPER || kind == LACKS_WELD || kind == LACKS_GOODNESS
                || kind == LACKS_LOOKS || kind == LACKS_TEST || kind == LACKS_FREE_ENDS;
    }

    private static boolean hasBit(int bits, int line) {
        return (bits >> line & 1) != 0;
    }

    private boolean isAllowed(Line line, int joint, Welder welder) {
        Heat one = line.parts[joint].heat;
        Heat two = line.parts[joint + 1].heat;
        return one != null && two != null && one.alloy == two.alloy && today <= welder.tickets[one.alloy];
    }

    private static boolean isOpen(End end, int bits) {
        return !end.hasBlind && (end.mate == null || !hasBit(bits, end.mate.line));
    }

    private int countOpenEnds(int bits) {
        int count = 0;
        for (int i = 0; i < lineCount; i++) {
            if (hasBit(bits, i)) {
                count += isOpen(lines[i].first, bits) ? 1 : 0;
                count += isOpen(lines[i].last, bits) ? 1 : 0;
            }
        }
        return count;
    }

    private boolean isTestable(int bits) {
        for (int i = 0; i < lineCount; i++) {
            if (hasBit(bits, i) && !lines[i].canBeTested()) {
                return false;
            }
        }
        return countOpenEnds(bits) == 0;
    }

    private int countLacking(char kind) {
        int count = 0;
        for (int i = 0; i < lineCount; i++) {
            for (int j = 0; j < lines[i].jointCount(); j++) {
                if (lines[i].firstLack(j) == kind) {
                    count++;
                }
            }
        }
        return count;
    }

    private int allAheadOf(int line) {
        int bits = lines[line].aheadBits;
        // A way through the lines has at most as many steps as there are lines.
        for (int step = 0; step < lineCount; step++) {
            for (int i = 0; i < lineCount; i++) {
                if (hasBit(bits, i)) {
                    bits |= lines[i].aheadBits;
                }
            }
        }
        return bits;
    }

    private int nextOver(int over) {
        for (int i = 0; i < lineCount; i++) {
            if (!hasBit(over, i) && (lines[i].aheadBits & ~over) == 0) {
                return i;
            }
        }
        return NO_LINE;
    }

    private int sizeGivenFrom(Heat heat) {
        int given = 0;
        for (int i = 0; i < lineCount; i++) {
            for (int j = 0; j < lines[i].partCount; j++) {
                Part next = lines[i].parts[j];
                given += next.heat == heat ? next.size : 0;
            }
        }
        return given;
    }

    private static final class Heat {
        private final int number;
        private int alloy;
        private int size;
        private int rest;
        private boolean hasPaper;

        Heat(int number) {
            this.number = number;
        }

        boolean putPaper(boolean is) {
            boolean had = hasPaper;
            hasPaper = is;
            return had;
        }

        boolean canServe(int wanted, int wantedAlloy) {
            return alloy == wantedAlloy && hasPaper && rest >= wanted;
        }
    }

    private static final class Welder {
        private final int number;
        private final int[] tickets = new int[ALLOYS];
        private int badLooks;

        Welder(int number) {
            this.number = number;
            for (int i = 0; i < ALLOYS; i++) {
                tickets[i] = NO_TICKET;
            }
        }
    }

    private static final class Part {
        private char kind;
        private int size;
        private Heat heat;

        void returnSteel() {
            if (heat != null) {
                heat.rest += size;
                heat = null;
            }
        }

        void takeSteel(Heat from) {
            from.rest -= size;
            heat = from;
        }

        boolean hasPaper() {
            return heat != null && heat.hasPaper;
        }
    }

    private static final class Joint {
        private char state = NEW;
        private int repairs;
        private Welder welder;

        void fuse(Welder by) {
            state = WELDED;
            welder = by;
        }

        void renew() {
            state = NEW;
            repairs = 0;
            welder = null;
        }

        boolean isLookedAt() {
            return state == GOOD || state == BAD;
        }
    }

    private static final class End {
        private final int line;
        private End mate;
        private boolean hasBlind;

        End(int line) {
            this.line = line;
        }

        boolean isFree() {
            return mate == null && !hasBlind;
        }

        boolean isSoundEnd() {
            return mate == null || (mate.mate == this && mate.line != line && !hasBlind);
        }
    }

    private static final class Line {
        private final Part[] parts = new Part[MAX_PARTS];
        private final Joint[] joints = new Joint[MAX_PARTS - 1];
        private final End first;
        private final End last;
        private int partCount;
        private int lookShare;
        private int badLooks;
        private boolean wasTested;
        private int aheadBits;

        Line(int number) {
            for (int i = 0; i < MAX_PARTS; i++) {
                parts[i] = new Part();
            }
            for (int i = 0; i < MAX_PARTS - 1; i++) {
                joints[i] = new Joint();
            }
            first = new End(number);
            last = new End(number);
        }

        void append(char kind, int size) {
            parts[partCount].kind = kind;
            parts[partCount].size = size;
            partCount++;
            wasTested = false;
        }

        End endAt(boolean isLast) {
            return isLast ? last : first;
        }

        int jointCount() {
            return partCount == 0 ? 0 : partCount - 1;
        }

        int totalSize() {
            int sum = 0;
            for (int i = 0; i < partCount; i++) {
                sum += parts[i].size;
            }
            return sum;
        }

        int spoolCount() {
            return partCount == 0 ? 0 : spoolWith(partCount - 1) + 1;
        }

        // Filling each spool as far as it goes is the cut with the fewest, and of those the one with the most ahead.
        int spoolWith(int part) {
            int spool = 0;
            int size = 0;
            int elbows = 0;
            for (int i = 0; i <= part; i++) {
                int elbow = parts[i].kind == ELBOW ? 1 : 0;
                if (size + parts[i].size > LONGEST_SPOOL || elbows + elbow > MOST_ELBOWS) {
                    spool++;
                    size = 0;
                    elbows = 0;
                }
                size += parts[i].size;
                elbows += elbow;
            }
            return spool;
        }

        int undoBeside(int part) {
            int count = 0;
            for (int i = part - 1; i <= part; i++) {
                if (i >= 0 && i < jointCount() && joints[i].state != NEW) {
                    joints[i].renew();
                    count++;
                }
            }
            return count;
        }

        int countNotNew() {
            int count = 0;
            for (int i = 0; i < jointCount(); i++) {
                count += joints[i].state != NEW ? 1 : 0;
            }
            return count;
        }

        int looksDue() {
            int all = jointCount();
            int due = (all * lookShare + 99) / 100 + LOOKS_FOR_A_BAD_ONE * badLooks;
            int looked = 0;
            for (int i = 0; i < all; i++) {
                looked += joints[i].isLookedAt() ? 1 : 0;
            }
            return Math.max(0, Math.min(all, due) - looked);
        }

        boolean canBeTested() {
            for (int i = 0; i < jointCount(); i++) {
                if (joints[i].state == NEW || joints[i].state == BAD) {
                    return false;
                }
            }
            return looksDue() == 0;
        }

        char firstLack(int joint) {
            Part one = parts[joint];
            Part two = parts[joint + 1];
            char state = joints[joint].state;
            if (one.heat == null || two.heat == null) {
                return LACKS_STEEL;
            }
            if (!one.hasPaper() || !two.hasPaper()) {
                return LACKS_PAPER;
            }
            if (state == NEW || state == BAD) {
                return state == NEW ? LACKS_WELD : LACKS_GOODNESS;
            }
            if (looksDue() > 0) {
                return LACKS_LOOKS;
            }
            if (!wasTested) {
                return LACKS_TEST;
            }
            return first.hasBlind || last.hasBlind ? LACKS_FREE_ENDS : LACKS_NOTHING;
        }

        boolean isComplete() {
            for (int i = 0; i < jointCount(); i++) {
                if (firstLack(i) != LACKS_NOTHING) {
                    return false;
                }
            }
            return jointCount() > 0;
        }

        boolean areJointsSound() {
            for (int i = 0; i < jointCount(); i++) {
                Heat one = parts[i].heat;
                Heat two = parts[i + 1].heat;
                boolean isOfOneAlloy = one != null && two != null && one.alloy == two.alloy;
                if (joints[i].state != NEW && (joints[i].welder == null || !isOfOneAlloy)) {
                    return false;
                }
            }
            return true;
        }
    }
}
