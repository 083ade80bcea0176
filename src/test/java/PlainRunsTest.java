import java.lang.reflect.Method;
import java.util.ArrayList;
import java.util.Arrays;
import java.util.List;
import java.util.Random;
import java.util.TreeMap;

/**
 * Random runs of calls, with right and wrong numbers, on GasTurn and on Plain: all answers must be the same,
 * and so must all that can be asked for at the end of a run.
 */
public final class PlainRunsTest {
    private static final int RUNS = 1500;
    private static final int CALLS = 512;
    private static final int[] FAR = {Integer.MIN_VALUE, Integer.MAX_VALUE, -1000, 1000, -1, 100, 10000};

    private final Random random;
    private final GasTurn real = new GasTurn();
    private final Plain plain = new Plain();
    private final List<String> calls = new ArrayList<>();
    private boolean same = true;

    private static final TreeMap<String, Method> REAL = new TreeMap<>();
    private static final TreeMap<String, Method> PLAIN = new TreeMap<>();
    private static final TreeMap<String, TreeMap<Integer, Integer>> ANSWERS = new TreeMap<>();

    private PlainRunsTest(long seed) {
        random = new Random(seed);
    }

    public static void main(String[] args) throws Exception {
        for (Method m : GasTurn.class.getDeclaredMethods()) {
            if (java.lang.reflect.Modifier.isPublic(m.getModifiers())) REAL.put(m.getName(), m);
        }
        for (Method m : Plain.class.getDeclaredMethods()) {
            Method r = REAL.get(m.getName());
            if (r == null || !Arrays.equals(r.getParameterTypes(), m.getParameterTypes())) continue;
            PLAIN.put(m.getName(), m);
        }
        Due due = new Due();
        due.is("methods in both", PLAIN.size(), REAL.size());
        int unlike = 0;
        for (int run = 0; run < RUNS && unlike < 3; run++) {
            PlainRunsTest test = new PlainRunsTest(run);
            test.run();
            due.holds("run " + run, test.same);
            if (!test.same) {
                unlike++;
                for (String c : test.calls) System.out.println("  " + c);
            }
        }
        seenAll(due);
        due.end();
    }

    /** The runs are worth nothing if they never come to the answers that the document tells. */
    private static void seenAll(Due due) {
        String[] wanted = {"knot -4", "pipe -1 -2 -4", "valve -1 -2 -3 0 1", "lost -1 -3 0 1", "pipeOf -5",
            "works -1 -2 -4", "close -1 -3 1", "work -5 0 1", "terminal -5 -1", "gas -1 0 1 2 3", "area -1",
            "pressure -5 -1 -2 0 1 2 3 4", "step -1 -2", "model -2 -4", "home -1 -2 -4", "survey -1 -2 1",
            "lay -1 -2 -13 -11 -12", "known -5", "need -5", "homeOf -5 -1", "stock -1 -2", "order -1 -2 -4",
            "sector -2 -3 -4", "why -1 0 1 2 3 4 5", "best -3", "bestAt -1 0 1 2 3 4 5 6", "plan -1 -3 1 2",
            "unplan 0 1 2", "shortOf -5 -1", "fitter -1 -2 -4", "change -1 -3 0 1 2 3", "week -3",
            "later -1 -3 1", "danger 0 1 2 3", "smell -1 -2 -4", "smellOf -5 -1 0 1", "limit -2",
            "fault -1 -3 1 2 3", "beyond -1 -2 0 1", "feed -2 -4", "law -4 -10 0", "bill -1 0", "act 0",
            "trace -1 10 11 12 20 30 31 40 41", "taken -2 -11 -13 0 1 2 3", "count -2", "sheet -2 -14 1",
            "cell -2 -11 -12 1", "copy -2 -11 -13 -12 0 1 2"};
        due.is("kinds of calls", wanted.length, REAL.size());
        for (String w : wanted) {
            String[] parts = w.split(" ");
            for (int i = 1; i < parts.length; i++) {
                boolean seen = ANSWERS.getOrDefault(parts[0], new TreeMap<>()).containsKey(Integer.parseInt(parts[i]));
                due.holds(parts[0] + " has answered " + parts[i], seen);
            }
        }
    }

    private void run() throws Exception {
        if (random.nextInt(8) != 0) setUp();
        String[] names = REAL.keySet().toArray(new String[0]);
        String[] often = {"change", "why", "best", "survey", "later", "fault", "beyond", "smell", "law", "week"};
        boolean one = random.nextInt(4) == 0;
        String much = names[random.nextInt(names.length)];
        while (calls.size() < CALLS && same) {
            int pick = random.nextInt(10);
            if (one && pick < 5) any(much);
            else if (pick < 4) any(often[random.nextInt(often.length)]);
            else any(names[random.nextInt(names.length)]);
        }
        if (same) askAll();
    }

    /** A net on which sectors can be changed: mostly valves, the terminal in a sector, works in others. */
    private void setUp() throws Exception {
        int knots = random.nextInt(3) == 0 ? 12 : 2 + random.nextInt(11);
        for (int i = 0; i < knots; i++) call("knot");
        for (int i = 1; i < knots; i++) call("pipe", random.nextInt(i), i, random.nextInt(15) == 0 ? 0 : 1);
        int more = random.nextInt(6);
        for (int i = 0; i < more; i++) call("pipe", random.nextInt(knots), random.nextInt(knots), 1);
        call("terminal", random.nextInt(knots));
        int works = random.nextInt(6);
        for (int i = 0; i < works; i++) call("works", random.nextInt(knots), 1 + random.nextInt(200), random.nextInt(60));
        int models = 1 + random.nextInt(6);
        for (int i = 0; i < models; i++) {
            call("model", random.nextInt(4), random.nextInt(5), 1 + random.nextInt(9), 1 + random.nextInt(8), random.nextInt(4));
        }
        int homes = random.nextInt(41);
        int useUpTo = 1 + random.nextInt(20);
        for (int i = 0; i < homes; i++) {
            call("home", random.nextInt(knots), 1 + random.nextInt(useUpTo), random.nextInt(32), random.nextInt(models));
        }
        for (int jet = 0; jet < 5; jet++) call("stock", jet, random.nextInt(80));
        int fitters = random.nextInt(5);
        for (int i = 0; i < fitters; i++) call("fitter", random.nextInt(16), 1 + random.nextInt(10), random.nextInt(knots));
        int sectors = random.nextInt(3) == 0 ? 7 : 1 + random.nextInt(7);
        int[] sets = new int[sectors];
        for (int k = 0; k < knots; k++) {
            int at = k < sectors ? k : random.nextInt(sectors + 1);
            if (at < sectors) sets[at] |= 1 << k;
        }
        for (int set : sets) call("sector", set);
    }

    private void any(String name) throws Exception {
        if (name.equals("law") && random.nextInt(4) != 0) {
            feedText();
            return;
        }
        int n = REAL.get(name).getParameterCount();
        Object[] numbers = new Object[n];
        for (int i = 0; i < n; i++) numbers[i] = number(name, i);
        call(name, numbers);
    }

    private void feedText() throws Exception {
        String text = random.nextBoolean()
            ? "bar sector " + random.nextInt(8) + " week " + random.nextInt(30) + " to " + random.nextInt(1000)
            : "pay " + random.nextInt(10000) + " class " + random.nextInt(5) + " from week " + random.nextInt(20);
        StringBuilder chars = new StringBuilder(text);
        if (random.nextInt(3) == 0) spoil(chars);
        int at = 0;
        while (at < chars.length() && same) {
            int n = Math.min(1 + random.nextInt(4), chars.length() - at);
            int bytes = random.nextInt();
            for (int i = 0; i < n; i++) bytes = bytes << 8 | chars.charAt(at + i);
            call("feed", bytes, n);
            at += n;
        }
        call("law");
    }

    private void spoil(StringBuilder chars) {
        int at = random.nextInt(chars.length());
        String signs = "0123456789 abrpy\u0000\u00ff";
        char sign = signs.charAt(random.nextInt(signs.length()));
        switch (random.nextInt(4)) {
            case 0: chars.setLength(at); break;
            case 1: chars.insert(at, sign); break;
            case 2: chars.append(sign); break;
            default: chars.setCharAt(at, sign);
        }
    }

    private int number(String name, int place) {
        if (random.nextInt(40) == 0) return FAR[random.nextInt(FAR.length)];
        int up = most(name, place);
        if (random.nextInt(25) == 0) return up + random.nextInt(2);
        return up <= 0 ? 0 : random.nextInt(up) + least(name, place);
    }

    private int least(String name, int place) {
        switch (name + place) {
            case "stock1": return -30;
            case "terminal0": case "sheet1": case "sheet2": return -1;
            case "works1": case "home1": case "order1": case "fitter1": case "model2": case "model3": return 1;
            case "order2": return plain.week + 1;
            case "smell1": return plain.smells.isEmpty() ? 0 : plain.smells.get(plain.smells.size() - 1).minute;
            case "beyond1": return 1;
            case "survey1": return 1;
            default: return 0;
        }
    }

    private int most(String name, int place) {
        int knots = plain.knots;
        int models = plain.models.size();
        switch (name + place) {
            case "pipe0": case "pipe1": case "works0": case "gas0": case "area0": case "pressure0":
            case "home0": case "fitter2": return knots;
            case "terminal0": return knots + 1;
            case "pipe2": case "valve1": case "need3": case "shortOf1": return 2;
            case "valve0": case "lost0": case "pipeOf0": return plain.pipes.size();
            case "pipeOf1": return 4;
            case "works1": return 500;
            case "works2": return 50;
            case "close0": case "work0": return plain.works.size();
            case "work1": return 5;
            case "step0": return 4;
            case "step1": return 300;
            case "model0": case "model4": case "taken1": return 4;
            case "model1": case "need1": case "stock0": case "order0": case "shortOf0": return 5;
            case "model2": return 9;
            case "model3": return 8;
            case "home1": return 20;
            case "home2": return 32;
            case "home3": case "beyond0": case "act0": case "taken0": return models;
            case "survey0": case "lay0": case "known0": case "homeOf0": case "later0": case "smell0":
            case "fault0": case "bill0": return plain.homes.size();
            case "survey1": return (1 << models) - 1;
            case "lay1": case "lay2": case "sheet0": case "cell0": case "copy0": case "copy2": return 3;
            case "lay3": case "cell1": case "copy1": case "copy3": case "copy4": return 6;
            case "known1": case "need2": return plain.surveys.size() + 2;
            case "homeOf1": return 8;
            case "stock1": return 80;
            case "order1": return 100;
            case "order2": return 8;
            case "sector0": return 1 << knots;
            case "need0": case "why0": case "plan0": case "change0": return plain.sectors.size();
            case "bestAt0": return 7;
            case "fitter0": return 16;
            case "fitter1": return 10;
            case "later1": return plain.fitters.size();
            case "smell1": return 60;
            case "smellOf0": return plain.smells.size();
            case "smellOf1": return 5;
            case "limit0": return 60;
            case "beyond1": return 9999;
            case "feed0": return 256;
            case "feed1": return 5;
            case "act1": return 3;
            case "act2": return 1000000;
            case "trace0": return 20;
            case "count0": return 18;
            case "sheet1": return 4;
            case "sheet2": return 12;
            case "cell2": return random.nextBoolean() ? 1 << models : 70000;
            default: throw new IllegalStateException(name + place);
        }
    }

    private void call(String name, Object... numbers) throws Exception {
        int got = (int) REAL.get(name).invoke(real, numbers);
        int want = (int) PLAIN.get(name).invoke(plain, numbers);
        calls.add(name + Arrays.toString(numbers) + " answered " + got + (got == want ? "" : ", due is " + want));
        ANSWERS.computeIfAbsent(name, n -> new TreeMap<>()).merge(want, 1, Integer::sum);
        if (got != want) same = false;
    }

    private void askAll() throws Exception {
        ask("count", 18);
        ask("pipeOf", 20, 4);
        ask("work", 5, 5);
        ask("gas", 12);
        ask("area", 12);
        ask("pressure", 12);
        ask("homeOf", 40, 8);
        ask("bill", 40);
        ask("why", 7);
        ask("bestAt", 7);
        ask("smellOf", 30, 5);
        ask("trace", 20);
        ask("shortOf", 5, 2);
        ask("taken", 12, 4);
        for (int h = 0; h < 40; h++) for (int k = 0; k < 60; k += 7) call("known", h, k);
        for (int s = 0; s < 7; s++) {
            for (int jet = 0; jet < 5; jet++) {
                call("need", s, jet, 100, 0);
                call("need", s, jet, 100, 1);
            }
        }
        for (int jet = 0; jet < 5; jet++) call("stock", jet, 0);
        call("danger");
        call("best");
        ask("bestAt", 7);
        call("terminal", -1);
        call("limit", 5);
        call("step", 0, 1);
    }

    private void ask(String name, int n) throws Exception {
        for (int i = 0; i < n; i++) call(name, i);
    }

    private void ask(String name, int n, int whats) throws Exception {
        for (int i = 0; i < n; i++) for (int what = 0; what < whats; what++) call(name, i, what);
    }
}
