import java.lang.reflect.InvocationTargetException;
import java.lang.reflect.Method;
import java.util.Map;
import java.util.TreeMap;

/** Runs of at most 512 calls on a yard and on the model; every answer and every exception is to be the same. */
public final class ModelTest {
    private static final int RUNS = 600;
    private static final int CALLS = 512;
    private static final int MOST_SHOWN = 20;
    private static final int MOST_LINES = 4;

    /** Each call with the kinds of its arguments, as argument() reads them. */
    private static final String[] CALLS_MADE = {
        "addLine g", "addPart lkm", "addPart lkm", "addPart lkm", "setLength lpm", "length l", "spools l",
        "spoolOf lp", "isField lj", "addHeat aqt", "left h", "losePaper h", "test h", "test h", "give lph",
        "give lph", "heatOf lp", "bestHeat lpa", "addWelder ", "ticket wad", "ticket wad", "mayWeld ljw", "weld ljw",
        "weld ljw", "weld ljw", "look ljt", "look ljt", "repair ljw", "repair ljw", "cutOut lj", "cutOut lj",
        "joint lj", "welderOf lj", "toLook l", "failed w", "pass n", "join lblb", "blind lbb", "addCircuit u",
        "open c", "canTest c", "testAll c", "testAll c", "isTested l", "lack lj", "lacks x", "undone ", "ahead ll",
        "isReady l", "turnover i", "checksum ", "doneShare ", "meanSpool l", "isSound "};

    private static final Map<String, Method> REAL = methodsOf(SpoolwrightYard.class);
    private static final Map<String, Method> MODEL = methodsOf(Model.class);
    private static final Map<String, Integer> SEEN = new TreeMap<>();

    private long seed;
    private int run;
    private int calls;
    private int lastLine;
    private final int[] parts = new int[MOST_LINES];
    private SpoolwrightYard yard;
    private Model model;
    private static int wrong;

    public static void main(String[] args) {
        for (int run = 1; run <= RUNS && wrong < MOST_SHOWN; run++) {
            new ModelTest().makeRun(run);
        }
        for (String rare : new String[] {"testAll answers", "isReady true", "cutOut answers", "lack i", "lack -",
            "ahead throws UnsupportedOperationException", "pass throws IllegalStateException", "join false"}) {
            if (!SEEN.containsKey(rare)) {
                wrong++;
                System.out.println("no run came to: " + rare);
            }
        }
        if (wrong > 0) {
            System.exit(1);
        }
    }

    private static Map<String, Method> methodsOf(Class<?> owner) {
        Map<String, Method> methods = new TreeMap<>();
        for (Method method : owner.getDeclaredMethods()) {
            if (java.lang.reflect.Modifier.isPublic(method.getModifiers())) {
                methods.put(method.getName(), method);
            }
        }
        return methods;
    }

    private int below(int bound) {
        seed = seed * 6364136223846793005L + 1442695040888963407L;
        return (int) ((seed >>> 33) % bound);
    }

    private void makeRun(int number) {
        run = number;
        seed = number;
        yard = new SpoolwrightYard();
        model = new Model();
        if (number % 8 == 0) {
            growOld();
        }
        int mostLines = 1 + below(MOST_LINES);
        for (int line = 0; line < mostLines; line++) {
            call("addLine", 1 + below(3));
            call("addHeat", below(2), 100 + below(19901), below(4) > 0);
            call("addWelder");
            call("ticket", line, below(2), below(1000));
            for (int part = below(6); part > 0; part--) {
                call("addPart", line, "ssev".charAt(below(4)), edge(100, 6000));
            }
        }
        while (calls < CALLS) {
            if (below(25) == 0) {
                finish(below(mostLines));
            } else if (below(60) == 0) {
                fail(below(mostLines), below(5), below(4));
            } else {
                anyCall(mostLines);
            }
        }
    }

    private void growOld() {
        for (int i = 0; i < 10; i++) {
            call("pass", 99);
        }
    }

    private void anyCall(int mostLines) {
        String made = CALLS_MADE[below(CALLS_MADE.length)];
        int space = made.indexOf(' ');
        Object[] arguments = new Object[made.length() - space - 1];
        for (int i = 0; i < arguments.length; i++) {
            arguments[i] = argument(made.charAt(space + 1 + i), mostLines);
        }
        call(made.substring(0, space), arguments);
    }

    /** Brings a line as far as it goes, which calls by chance hardly ever do. */
    private void finish(int line) {
        int heat = below(4);
        int welder = below(4);
        call("ticket", welder, below(2), 999);
        for (int part = 0; part < parts[line]; part++) {
            call("give", line, part, below(6) > 0 ? heat : below(4));
        }
        for (int joint = 0; joint < parts[line] - 1; joint++) {
            call(call("joint", line, joint).equals("b") ? "repair" : "weld", line, joint, welder);
            call("look", line, joint, below(8) > 0);
        }
        call("blind", line, false, true);
        call("blind", line, true, true);
        call("addCircuit", 1 << line);
        for (int circuit = 0; circuit < 6; circuit++) {
            if (call("canTest", circuit).equals("true")) {
                call("testAll", circuit);
            }
        }
        call("lack", line, 0);
        call("test", heat);
        call("blind", line, below(6) == 0, false);
        call("blind", line, true, false);
        call("isReady", line);
        call("doneShare");
        call("lacks", "spwblti".charAt(below(7)));
    }

    /** Spoils one joint as often as it can be repaired, and once more. */
    private void fail(int line, int joint, int welder) {
        call("weld", line, joint, welder);
        for (int repair = 0; repair <= 2 + below(2); repair++) {
            call("look", line, joint, false);
            call("repair", line, joint, welder);
        }
        call("cutOut", line, joint);
        call("failed", welder);
        call("toLook", line);
        call("pass", 60 + below(41));
    }

    private Object argument(char kind, int mostLines) {
        int odd = below(30);
        switch (kind) {
            case 't': return below(4) > 0;
            case 'b': return below(2) > 0;
            case 'k': return odd == 0 ? 'x' : "ssssev".charAt(below(6));
            case 'x': return odd == 0 ? '-' : "spwblti".charAt(below(7));
            case 'm': return edge(100, 6000);
            case 'q': return edge(100, 20000);
            default: break;
        }
        if (odd == 0) {
            return new int[] {-1, Integer.MIN_VALUE, Integer.MAX_VALUE, 16, 10, 5}[below(6)];
        }
        switch (kind) {
            case 'l':
                lastLine = below(mostLines);
                return lastLine;
            case 'p': return below(Math.max(1, parts[lastLine]));
            case 'j': return below(Math.max(1, parts[lastLine] - 1));
            case 'h': return below(5);
            case 'w': return below(5);
            case 'a': return below(9) > 0 ? below(2) : below(5);
            case 'd': return edge(0, 999);
            case 'g': return 1 + below(3);
            case 'n': return below(4) > 0 ? 1 + below(3) : below(101);
            case 'u': return 1 + below((1 << mostLines) - 1);
            case 'c': return below(6);
            default: return below(5);
        }
    }

    private int edge(int low, int high) {
        int odd = below(40);
        if (odd < 4) {
            return new int[] {low - 1, low, high, high + 1}[odd];
        }
        return odd < 12 ? low : low + below(high - low + 1);
    }

    private static String answer(Method method, Object owner, Object[] arguments) {
        try {
            return String.valueOf(method.invoke(owner, arguments));
        } catch (InvocationTargetException e) {
            return "throws " + e.getCause().getClass().getSimpleName();
        } catch (IllegalAccessException e) {
            return "cannot be called";
        }
    }

    private String call(String name, Object... arguments) {
        if (calls >= CALLS) {
            return "";
        }
        calls++;
        String got = answer(REAL.get(name), yard, arguments);
        String due = answer(MODEL.get(name), model, arguments);
        boolean isThrown = due.startsWith("throws");
        SEEN.merge(name + " " + due, 1, Integer::sum);
        SEEN.merge(name + (isThrown ? " is refused" : " answers"), 1, Integer::sum);
        if (!got.equals(due)) {
            wrong++;
            System.out.println("run " + run + ", call " + calls + ": " + name
                + java.util.Arrays.toString(arguments) + " answered " + got + ", due is " + due);
        }
        if (name.equals("addPart") && !isThrown) {
            parts[(Integer) arguments[0]]++;
        }
        return due;
    }
}
