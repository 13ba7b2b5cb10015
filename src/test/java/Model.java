import java.util.ArrayList;
import java.util.List;
import java.util.NoSuchElementException;

/** The document once more, written without regard to speed or room, for ModelTest to compare with. */
public final class Model {
    private static final class Tube {
        int line;
        char kind;
        int length;
        int heat = -1;
    }

    private static final class Seam {
        int line;
        String past = "";
        int welder;

        char how() {
            return past.isEmpty() ? 'n' : past.charAt(past.length() - 1);
        }

        int repairs() {
            return (int) past.chars().filter(c -> c == 'w').count() - 1;
        }
    }

    private final List<Integer> classes = new ArrayList<>();
    private final List<Tube> tubes = new ArrayList<>();
    private final List<Seam> seams = new ArrayList<>();
    private final List<int[]> heats = new ArrayList<>();
    private final List<Boolean> papers = new ArrayList<>();
    private final List<int[]> tickets = new ArrayList<>();
    private final List<Integer> circuits = new ArrayList<>();
    private final List<Integer> badLines = new ArrayList<>();
    private final List<Integer> badWelders = new ArrayList<>();
    private final List<String> joins = new ArrayList<>();
    private final List<String> blinds = new ArrayList<>();
    private final List<String> orders = new ArrayList<>();
    private final List<Integer> tested = new ArrayList<>();
    private int day;
    private int undone;
    private int cuts;

    private static void index(boolean is) {
        if (!is) {
            throw new IndexOutOfBoundsException();
        }
    }

    private static void argument(boolean is) {
        if (!is) {
            throw new IllegalArgumentException();
        }
    }

    private static void state(boolean is) {
        if (!is) {
            throw new IllegalStateException();
        }
    }

    private static void supported(boolean is) {
        if (!is) {
            throw new UnsupportedOperationException();
        }
    }

    private static void element(boolean is) {
        if (!is) {
            throw new NoSuchElementException();
        }
    }

    private static boolean in(int number, int low, int high) {
        return low <= number && number <= high;
    }

    private void hasLine(int line) {
        index(in(line, 0, classes.size() - 1));
    }

    private List<Tube> tubesOf(int line) {
        hasLine(line);
        return tubes.stream().filter(t -> t.line == line).toList();
    }

    private List<Seam> seamsOf(int line) {
        hasLine(line);
        return seams.stream().filter(s -> s.line == line).toList();
    }

    private Tube tube(int line, int part) {
        index(in(part, 0, tubesOf(line).size() - 1));
        return tubesOf(line).get(part);
    }

    private Seam seam(int line, int joint) {
        index(in(joint, 0, seamsOf(line).size() - 1));
        return seamsOf(line).get(joint);
    }

    private void change(int line) {
        tested.removeIf(t -> t == line);
    }

    private static int sizeOf(List<Tube> some) {
        return some.stream().mapToInt(t -> t.length).sum();
    }

    private static boolean isSpool(List<Tube> some) {
        return sizeOf(some) <= 12000 && some.stream().filter(t -> t.kind == 'e').count() <= 2;
    }

    private static List<Integer> cutBy(List<Tube> all, int bits) {
        List<Integer> counts = new ArrayList<>();
        int from = 0;
        for (int i = 1; i <= all.size(); i++) {
            if (i == all.size() || (bits >> (i - 1) & 1) == 1) {
                if (!isSpool(all.subList(from, i))) {
                    return null;
                }
                counts.add(i - from);
                from = i;
            }
        }
        return counts;
    }

    private static boolean isBetter(List<Integer> one, List<Integer> two) {
        if (two == null || one.size() != two.size()) {
            return two == null || one.size() < two.size();
        }
        for (int i = 0; i < one.size(); i++) {
            if (!one.get(i).equals(two.get(i))) {
                return one.get(i) > two.get(i);
            }
        }
        return false;
    }

    private List<Integer> cut(int line) {
        List<Tube> all = tubesOf(line);
        List<Integer> best = null;
        for (int bits = 0; bits < 1 << Math.max(0, all.size() - 1); bits++) {
            List<Integer> next = cutBy(all, bits);
            if (next != null && isBetter(next, best)) {
                best = next;
            }
        }
        return best;
    }

    public int addLine(int number) {
        argument(in(number, 1, 3));
        state(classes.size() < 4);
        classes.add(number);
        return classes.size() - 1;
    }

    public int addPart(int line, char kind, int length) {
        int count = tubesOf(line).size();
        argument("sev".indexOf(kind) >= 0 && (kind != 's' || in(length, 100, 6000)));
        state(count < 10);
        Tube tube = new Tube();
        tube.line = line;
        tube.kind = kind;
        tube.length = kind == 's' ? length : 300;
        tubes.add(tube);
        if (count > 0) {
            Seam seam = new Seam();
            seam.line = line;
            seams.add(seam);
        }
        change(line);
        return count;
    }

    private void undo(int line, int part) {
        for (int joint : new int[] {part - 1, part}) {
            if (in(joint, 0, seamsOf(line).size() - 1) && seam(line, joint).how() != 'n') {
                seam(line, joint).past = "";
                undone++;
            }
        }
        change(line);
    }

    public int setLength(int line, int part, int length) {
        Tube tube = tube(line, part);
        argument(in(length, 100, 6000));
        supported(tube.kind == 's' && tube.length != length);
        int before = tube.length;
        tube.length = length;
        tube.heat = -1;
        undo(line, part);
        return before;
    }

    public int length(int line) {
        return sizeOf(tubesOf(line));
    }

    public int spools(int line) {
        return cut(line).size();
    }

    public int spoolOf(int line, int part) {
        tube(line, part);
        int spool = 0;
        int end = 0;
        for (int count : cut(line)) {
            end += count;
            spool += part >= end ? 1 : 0;
        }
        return spool;
    }

    public boolean isField(int line, int joint) {
        seam(line, joint);
        return spoolOf(line, joint) < spoolOf(line, joint + 1);
    }

    public int addHeat(int alloy, int length, boolean hasPaper) {
        argument(in(alloy, 0, 3) && in(length, 100, 20000));
        state(heats.size() < 8);
        heats.add(new int[] {alloy, length});
        papers.add(hasPaper);
        return heats.size() - 1;
    }

    public int left(int heat) {
        index(in(heat, 0, heats.size() - 1));
        return heats.get(heat)[1] - sizeOf(tubes.stream().filter(t -> t.heat == heat).toList());
    }

    public boolean losePaper(int heat) {
        index(in(heat, 0, heats.size() - 1));
        return papers.set(heat, false);
    }

    public boolean test(int heat) {
        index(in(heat, 0, heats.size() - 1));
        return papers.set(heat, true);
    }

    public int give(int line, int part, int heat) {
        Tube tube = tube(line, part);
        supported(left(heat) >= tube.length && tube.heat != heat);
        tube.heat = heat;
        undo(line, part);
        return left(heat);
    }

    public int heatOf(int line, int part) {
        element(tube(line, part).heat >= 0);
        return tube(line, part).heat;
    }

    public int bestHeat(int line, int part, int alloy) {
        Tube tube = tube(line, part);
        argument(in(alloy, 0, 3));
        for (int rest = tube.length; rest <= 20000; rest++) {
            for (int heat = 0; heat < heats.size(); heat++) {
                if (heats.get(heat)[0] == alloy && papers.get(heat) && left(heat) == rest) {
                    return heat;
                }
            }
        }
        throw new NoSuchElementException();
    }

    public int addWelder() {
        state(tickets.size() < 5);
        tickets.add(new int[] {-1, -1, -1, -1});
        return tickets.size() - 1;
    }

    public int ticket(int welder, int alloy, int lastDay) {
        index(in(welder, 0, tickets.size() - 1));
        argument(in(alloy, 0, 3) && in(lastDay, 0, 999));
        int before = tickets.get(welder)[alloy];
        tickets.get(welder)[alloy] = lastDay;
        return before;
    }

    public boolean mayWeld(int line, int joint, int welder) {
        seam(line, joint);
        index(in(welder, 0, tickets.size() - 1));
        int one = tube(line, joint).heat;
        int two = tube(line, joint + 1).heat;
        if (one < 0 || two < 0 || heats.get(one)[0] != heats.get(two)[0]) {
            return false;
        }
        return tickets.get(welder)[heats.get(one)[0]] >= day;
    }

    public int weld(int line, int joint, int welder) {
        Seam seam = seam(line, joint);
        supported(mayWeld(line, joint, welder) && seam.how() == 'n');
        seam.past = "w";
        seam.welder = welder;
        change(line);
        return (int) seamsOf(line).stream().filter(s -> s.how() != 'n').count();
    }

    public char look(int line, int joint, boolean isGood) {
        Seam seam = seam(line, joint);
        supported(seam.how() == 'w');
        seam.past += isGood ? "g" : "b";
        if (!isGood) {
            badLines.add(line);
            badWelders.add(seam.welder);
            change(line);
        }
        return seam.how();
    }

    public int repair(int line, int joint, int welder) {
        Seam seam = seam(line, joint);
        supported(mayWeld(line, joint, welder) && seam.how() == 'b' && seam.repairs() < 2);
        seam.past += "w";
        seam.welder = welder;
        change(line);
        return seam.repairs();
    }

    public int cutOut(int line, int joint) {
        Seam seam = seam(line, joint);
        supported(seam.past.equals("wbwbwb"));
        seam.past = "";
        change(line);
        cuts++;
        return cuts;
    }

    public char joint(int line, int joint) {
        return seam(line, joint).how();
    }

    public int welderOf(int line, int joint) {
        element(seam(line, joint).how() != 'n');
        return seam(line, joint).welder;
    }

    public int toLook(int line) {
        List<Seam> all = seamsOf(line);
        int hundredths = List.of(5, 20, 100).get(classes.get(line) - 1);
        int due = 0;
        while (100 * due < hundredths * all.size()) {
            due++;
        }
        due += 2 * (int) badLines.stream().filter(b -> b == line).count();
        int looked = (int) all.stream().filter(s -> "gb".indexOf(s.how()) >= 0).count();
        return Math.max(0, Math.min(due, all.size()) - looked);
    }

    public int failed(int welder) {
        index(in(welder, 0, tickets.size() - 1));
        return (int) badWelders.stream().filter(b -> b == welder).count();
    }

    public int pass(int days) {
        argument(in(days, 1, 99));
        state(day + days <= 999);
        day += days;
        return day;
    }

    private static String end(int line, boolean isLast) {
        return line + (isLast ? "last" : "first");
    }

    private boolean isJoined(String end) {
        return joins.stream().anyMatch(j -> j.contains(end));
    }

    public boolean join(int line, boolean isLast, int other, boolean isOtherLast) {
        hasLine(line);
        hasLine(other);
        argument(line != other);
        String one = end(line, isLast);
        String two = end(other, isOtherLast);
        boolean were = joins.remove(one + " " + two) || joins.remove(two + " " + one);
        if (!were) {
            supported(!isJoined(one) && !isJoined(two) && !blinds.contains(one) && !blinds.contains(two));
            joins.add(one + " " + two);
        }
        change(line);
        change(other);
        return !were;
    }

    public boolean blind(int line, boolean isLast, boolean is) {
        hasLine(line);
        supported(!is || !isJoined(end(line, isLast)));
        boolean was = blinds.remove(end(line, isLast));
        if (is) {
            blinds.add(end(line, isLast));
        }
        return was;
    }

    public int addCircuit(int lines) {
        argument(in(lines, 1, 15) && lines < 1 << classes.size());
        state(circuits.size() < 6);
        circuits.add(lines);
        return circuits.size() - 1;
    }

    private List<Integer> linesOf(int circuit) {
        index(in(circuit, 0, circuits.size() - 1));
        List<Integer> lines = new ArrayList<>();
        for (int line = 0; line < classes.size(); line++) {
            if (Integer.toBinaryString(16 + circuits.get(circuit)).charAt(4 - line) == '1') {
                lines.add(line);
            }
        }
        return lines;
    }

    public int open(int circuit) {
        int count = 0;
        List<Integer> lines = linesOf(circuit);
        for (int line : lines) {
            for (boolean isLast : new boolean[] {false, true}) {
                String end = end(line, isLast);
                boolean isShut = blinds.contains(end) || joins.stream().anyMatch(j -> j.contains(end)
                    && lines.stream().anyMatch(o -> o != line && (j.startsWith("" + o) || j.contains(" " + o))));
                count += isShut ? 0 : 1;
            }
        }
        return count;
    }

    public boolean canTest(int circuit) {
        boolean can = open(circuit) == 0;
        for (int line : linesOf(circuit)) {
            can &= seamsOf(line).stream().allMatch(s -> "wg".indexOf(s.how()) >= 0) && toLook(line) == 0;
        }
        return can;
    }

    public int testAll(int circuit) {
        supported(canTest(circuit));
        tested.addAll(linesOf(circuit));
        return (int) tested.stream().distinct().count();
    }

    public boolean isTested(int line) {
        hasLine(line);
        return tested.contains(line);
    }

    public char lack(int line, int joint) {
        Seam seam = seam(line, joint);
        List<Integer> both = List.of(tube(line, joint).heat, tube(line, joint + 1).heat);
        boolean[] lacks = {both.contains(-1), both.stream().anyMatch(h -> h >= 0 && !papers.get(h)),
            seam.how() == 'n', seam.how() == 'b', toLook(line) > 0, !isTested(line),
            blinds.contains(end(line, false)) || blinds.contains(end(line, true)), true};
        int first = 0;
        while (!lacks[first]) {
            first++;
        }
        return "spwblti-".charAt(first);
    }

    private int count(char kind) {
        int count = 0;
        for (int line = 0; line < classes.size(); line++) {
            for (int joint = 0; joint < seamsOf(line).size(); joint++) {
                count += lack(line, joint) == kind ? 1 : 0;
            }
        }
        return count;
    }

    public int lacks(char kind) {
        argument("spwblti".indexOf(kind) >= 0);
        return count(kind);
    }

    public int undone() {
        return undone;
    }

    private boolean comesAhead(int first, int second) {
        return orders.contains(first + "<" + second) || orders.stream().anyMatch(
            o -> o.startsWith(first + "<") && comesAhead(Integer.parseInt(o.substring(2)), second));
    }

    public boolean ahead(int first, int second) {
        hasLine(first);
        hasLine(second);
        argument(first != second);
        supported(!comesAhead(second, first));
        if (orders.contains(first + "<" + second)) {
            return true;
        }
        orders.add(first + "<" + second);
        return false;
    }

    public boolean isReady(int line) {
        hasLine(line);
        boolean is = seamsOf(line).size() > 0;
        for (int joint = 0; joint < seamsOf(line).size(); joint++) {
            is &= lack(line, joint) == '-';
        }
        for (int other = 0; other < classes.size(); other++) {
            is &= !orders.contains(other + "<" + line) || isReady(other);
        }
        return is;
    }

    public int turnover(int index) {
        element(in(index, 0, classes.size() - 1));
        List<Integer> over = new ArrayList<>();
        while (over.size() <= index) {
            for (int line = 0; line < classes.size(); line++) {
                int next = line;
                if (!over.contains(line) && orders.stream().noneMatch(
                        o -> o.endsWith("<" + next) && !over.contains(o.charAt(0) - '0'))) {
                    over.add(line);
                    break;
                }
            }
        }
        return over.get(index);
    }

    public long checksum() {
        long sum = 7;
        for (int line = 0; line < classes.size(); line++) {
            for (Seam seam : seamsOf(line)) {
                sum = sum * 31 + seam.how();
            }
        }
        for (int heat = 0; heat < heats.size(); heat++) {
            sum = sum * 31 + left(heat);
        }
        return (sum * 31 + undone) * 31 + day;
    }

    public float doneShare() {
        if (seams.isEmpty()) {
            throw new ArithmeticException();
        }
        return (float) count('-') / (float) seams.size();
    }

    public double meanSpool(int line) {
        if (spools(line) == 0) {
            throw new ArithmeticException();
        }
        return (double) length(line) / (double) spools(line);
    }

    public boolean isSound() {
        return true;
    }
}
