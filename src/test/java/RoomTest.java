import com.sun.management.ThreadMXBean;
import java.lang.management.ManagementFactory;
import java.lang.reflect.Array;
import java.lang.reflect.Field;
import java.lang.reflect.Modifier;
import java.util.ArrayList;
import java.util.Collections;
import java.util.IdentityHashMap;
import java.util.List;
import java.util.Set;

/**
 * LANGUAGE.md rule 12, and the room that all calls of one run share: an object and all that it holds stay small,
 * and no call makes anything but model() and home(), which make one object each.
 */
public final class RoomTest {
    private static final Due DUE = new Due();
    private static final int MOST_OBJECTS = 150;
    private static final int MOST_PARTS = 3000;
    private static final ThreadMXBean THREADS = (ThreadMXBean) ManagementFactory.getThreadMXBean();
    /**
     * The least of all rounds counts, as the machine itself may make something now and then while it comes to know
     * the code; and there are few, as it leaves out what need not be made once it knows the code well.
     */
    private static final int ROUNDS = 6;

    /** Keeps the answers in use, so that no call can be left out. */
    private static int sum;

    public static void main(String[] args) throws IllegalAccessException {
        size();
        nothingMade();
        oneMade();
        DUE.end();
    }

    private static void size() throws IllegalAccessException {
        GasTurn g = new GasTurn();
        fill(g);
        doAll(g);
        // the calls would be worth nothing if they were all refused
        int[] due = {12, 20, 5, 12, 40, 44, 5, 7, 0, 8, 30, 30, 10, 8};
        for (int what = 0; what < due.length; what++) DUE.is("count " + what + " of a full object", g.count(what), due[what]);
        Set<Object> seen = Collections.newSetFromMap(new IdentityHashMap<>());
        List<Object> toDo = new ArrayList<>(List.of(g));
        int parts = 0;
        while (!toDo.isEmpty()) {
            Object o = toDo.remove(toDo.size() - 1);
            if (seen.add(o)) parts += partsOf(o, toDo);
        }
        System.out.println(seen.size() + " objects, " + parts + " fields and elements");
        DUE.holds("objects: " + seen.size(), seen.size() <= MOST_OBJECTS);
        DUE.holds("fields and elements: " + parts, parts <= MOST_PARTS);
    }

    private static int partsOf(Object o, List<Object> toDo) throws IllegalAccessException {
        if (o.getClass().isArray()) {
            boolean ofObjects = !o.getClass().getComponentType().isPrimitive();
            for (int i = 0; ofObjects && i < Array.getLength(o); i++) add(Array.get(o, i), toDo);
            return Array.getLength(o);
        }
        int fields = 0;
        for (Class<?> c = o.getClass(); c != Object.class; c = c.getSuperclass()) {
            for (Field f : c.getDeclaredFields()) {
                if (Modifier.isStatic(f.getModifiers())) continue;
                fields++;
                f.setAccessible(true);
                if (!f.getType().isPrimitive()) add(f.get(o), toDo);
            }
        }
        return fields;
    }

    private static void add(Object o, List<Object> toDo) {
        if (o != null) toDo.add(o);
    }

    private static void nothingMade() {
        long least = Long.MAX_VALUE;
        for (int round = 0; round < ROUNDS; round++) {
            GasTurn g = new GasTurn();
            fill(g);
            long look = costOfLooking();
            long before = made();
            doAll(g);
            least = Math.min(least, made() - before - look);
        }
        DUE.is("bytes made by calls that make nothing", least, 0);
    }

    private static void oneMade() {
        long model = Long.MAX_VALUE;
        long home = Long.MAX_VALUE;
        for (int round = 0; round < ROUNDS; round++) {
            GasTurn g = new GasTurn();
            g.knot();
            long look = costOfLooking();
            long before = made();
            g.model(3, 0, 1, 1, 0);
            model = Math.min(model, made() - before - look);
            before = made();
            g.home(0, 1, 1, 0);
            home = Math.min(home, made() - before - look);
        }
        DUE.holds("bytes of a model: " + model, model > 0 && model <= 64);
        DUE.holds("bytes of a home: " + home, home > 0 && home <= 80);
    }

    private static long made() {
        return THREADS.getThreadAllocatedBytes(Thread.currentThread().getId());
    }

    private static long costOfLooking() {
        long least = Long.MAX_VALUE;
        for (int round = 0; round < ROUNDS; round++) {
            long before = made();
            least = Math.min(least, made() - before);
        }
        return least;
    }

    /** All models and homes that there can be, on a row of knots. */
    private static void fill(GasTurn g) {
        for (int i = 0; i < 12; i++) g.knot();
        for (int i = 0; i < 12; i++) g.model(i % 4, i % 5, 1, 1, i % 4);
        for (int i = 0; i < 40; i++) g.home(i % 12, 1, 31, i % 12);
    }

    private static void doAll(GasTurn g) {
        doNet(g);
        doHomes(g);
        doSectors(g);
        doWeeks(g);
        doSmells(g);
        doLaws(g);
        doSheets(g);
        sum += g.knot() + g.model(0, 0, 1, 1, 0) + g.home(0, 1, 31, 0);
        for (int what = -1; what <= 18; what++) sum += g.count(what);
    }

    private static void doNet(GasTurn g) {
        for (int i = 0; i < 11; i++) sum += g.pipe(i, i + 1, 1);
        for (int i = 0; i < 10; i++) sum += g.pipe(i, i + 2, 1);
        for (int i = 0; i < 6; i++) sum += g.works(11, 500, 9999);
        sum += g.terminal(0) + g.terminal(12) + g.valve(1, 0) + g.valve(1, 1) + g.lost(19) + g.lost(20);
        sum += g.step(0, 61) + g.step(0, 80) + g.close(4) + g.close(4);
        for (int k = -1; k <= 12; k++) sum += g.gas(k) + g.area(k) + g.pressure(k);
        for (int what = -1; what <= 5; what++) sum += g.pipeOf(3, what) + g.work(0, what);
    }

    private static void doHomes(GasTurn g) {
        for (int i = 0; i < 40; i++) sum += g.survey(i, 1 + i) + g.survey(i, 4096) + g.known(i, i) + g.known(i, 400);
        for (int what = -1; what <= 8; what++) sum += g.homeOf(0, what);
    }

    private static void doSectors(GasTurn g) {
        for (int s = 0; s < 7; s++) sum += g.sector(s < 6 ? 1 << s : 0xFC0) + g.sector(1);
        for (int s = -1; s <= 7; s++) sum += g.why(s) + g.plan(s) + g.need(s, 0, 40, 1) + g.need(s, 1, 0, 0);
        sum += g.best();
        for (int i = -1; i <= 7; i++) sum += g.bestAt(i);
        for (int jet = 0; jet < 5; jet++) {
            sum += g.stock(jet, 20) + g.stock(jet, 9999) + g.order(jet, 5, 2) + g.shortOf(jet, 0) + g.shortOf(jet, 1);
        }
        sum += g.unplan();
    }

    private static void doWeeks(GasTurn g) {
        for (int i = 0; i < 9; i++) sum += g.fitter(i == 0 ? 7 : 1, 2, i);
        sum += g.change(6);
        for (int s = 0; s < 7; s++) sum += g.change(s) + g.best() + g.danger();
        for (int h = 0; h < 40; h++) sum += g.later(h, 0) + g.bill(h);
        sum += g.week();
    }

    private static void doSmells(GasTurn g) {
        for (int i = 0; i < 31; i++) sum += g.smell(i, 10 * i) + g.smell(i, 0);
        for (int what = -1; what <= 5; what++) sum += g.smellOf(7, what);
        sum += g.limit(5) + g.limit(1000);
        for (int h = 0; h < 40; h++) sum += g.fault(h);
        for (int m = 0; m < 13; m++) sum += g.beyond(m, 500) + g.beyond(m, 0);
    }

    private static void doLaws(GasTurn g) {
        for (int i = 0; i < 11; i++) {
            // "pay 7 class 0 from week 1"
            sum += g.feed(0x70617920, 4) + g.feed(0x3720636c, 4) + g.feed(0x61737320, 4) + g.feed(0x30206672, 4);
            sum += g.feed(0x6f6d2077, 4) + g.feed(0x65656b20, 4) + g.feed(i == 3 ? 32 : 0x31, 1) + g.law();
        }
    }

    private static void doSheets(GasTurn g) {
        for (int m = 0; m < 13; m++) {
            for (int act = -1; act <= 3; act++) sum += g.act(m, act, 1000 + m) + g.trace(act);
            for (int k = -1; k <= 4; k++) sum += g.taken(m, k);
        }
        for (int s = 0; s < 4; s++) {
            sum += g.sheet(s, s, 40) + g.sheet(s, 0, -1) + g.cell(s, 3, 77777) + g.cell(s, 40, 1);
            sum += g.copy(s, 1, s, 2, 38) + g.copy(s, 0, 0, 0, 1) + g.cell(s, 39, 5);
            sum += g.lay(3, s, s, 39) + g.lay(3, s, 0, 39) + g.lay(3, s, s, 40);
        }
        sum += g.sheet(1, -1, 0) + g.cell(1, 0, 0);
    }
}
