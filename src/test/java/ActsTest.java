/** Promises 44 to 50: acts, kinds, counts, sheets. */
public final class ActsTest {
    private static final Due DUE = new Due();

    public static void main(String[] args) {
        actsOfRing();
        actsOfOven();
        actsOfGrill();
        actsOfFire();
        noActs();
        wrapping();
        taken();
        counts();
        sheets();
        cells();
        copies();
        copiesRefused();
        DUE.end();
    }

    /** Models 0 .. 3 of kinds 0 .. 3, then 4 .. 7 again, with 1, 2, 3, .. of a jet. */
    private static GasTurn kinds() {
        GasTurn g = new GasTurn();
        for (int i = 0; i < 8; i++) g.model(i % 4, 0, i + 1, 1, 0);
        return g;
    }

    private static void acts(GasTurn g, int model, int act, int x, int answer, int... bodies) {
        String what = "44: act " + model + " " + act + " " + x;
        DUE.is(what, g.act(model, act, x), answer);
        DUE.is(what + ": bodies", g.count(17), bodies.length);
        for (int i = 0; i < bodies.length; i++) DUE.is("45: " + what + ": trace " + i, g.trace(i), bodies[i]);
        DUE.is("45: " + what + ": no more", g.trace(bodies.length), -1);
    }

    private static void actsOfRing() {
        GasTurn g = kinds();
        acts(g, 4, 0, 10, 15, 10);
        acts(g, 4, 1, 10, 30, 11, 10);
        acts(g, 4, 2, 10, 30 ^ 19, 12, 11, 10, 10);
    }

    private static void actsOfOven() {
        GasTurn g = kinds();
        acts(g, 5, 0, 10, 16, 10);
        acts(g, 5, 1, 10, 27, 20, 11, 10);
        acts(g, 5, 2, 10, 27 ^ 21, 12, 20, 11, 10, 10);
    }

    private static void actsOfGrill() {
        GasTurn g = kinds();
        acts(g, 6, 0, 10, 51, 30, 10);
        acts(g, 6, 1, 10, 96, 20, 11, 30, 10);
        acts(g, 6, 2, 10, 90 ^ 66, 31, 12, 20, 11, 30, 10, 30, 10);
    }

    private static void actsOfFire() {
        GasTurn g = kinds();
        acts(g, 7, 0, 10, 18 ^ 7, 40, 10);
        acts(g, 7, 1, 10, 21 * 3, 41, 11, 40, 10, 40, 10);
        acts(g, 7, 2, 10, 63 ^ (25 ^ 7), 12, 41, 11, 40, 10, 40, 10, 40, 10);
    }

    private static void noActs() {
        GasTurn g = kinds();
        g.act(0, 2, 1);
        DUE.is("44: no model", g.act(8, 0, 1), 0);
        DUE.is("45: no trace then", g.trace(0), -1);
        DUE.is("47: none ran", g.count(17), 0);
        g.act(0, 2, 1);
        DUE.is("44: no act", g.act(0, 3, 1), 0);
        DUE.is("45: no trace then", g.trace(0), -1);
        g.act(0, 2, 1);
        for (int far : Due.FAR) {
            DUE.is("45: none", g.trace(far), -1);
            g.act(0, 2, 1);
            DUE.is("44: model", g.act(far, 0, 1), 0);
            DUE.is("45: no trace then", g.trace(0), -1);
            g.act(0, 2, 1);
            DUE.is("44: act", g.act(0, far, 1), 0);
            DUE.is("45: no trace then", g.trace(0), -1);
        }
        DUE.is("45: 20", g.trace(20), -1);
    }

    private static void wrapping() {
        GasTurn g = kinds();
        int max = Integer.MAX_VALUE;
        DUE.is("44: wraps", g.act(0, 0, max), Integer.MIN_VALUE);
        DUE.is("44: wraps", g.act(4, 1, max), (max + 5) * 2);
        DUE.is("44: wraps", g.act(6, 0, max), (max + 7) * 3);
        DUE.is("44: wraps", g.act(6, 2, Integer.MIN_VALUE), ((max + 7) * 6 - 6) ^ ((max + 6 + 7) * 3));
        DUE.is("44: below 0", g.act(7, 0, -20), -12 ^ 7);
    }

    private static void taken() {
        GasTurn g = kinds();
        int[][] due = {{0, -13, -13, -13}, {1, 1, -13, -13}, {2, 2, 2, -13}, {3, -13, -13, 3}};
        for (int m = 0; m < 8; m++) {
            for (int k = 0; k < 4; k++) DUE.is("46: " + m + " for " + k, g.taken(m, k), due[m % 4][k]);
        }
        DUE.is("46: k 4", g.taken(0, 4), -2);
        DUE.is("46: bad ahead of -11", g.taken(8, 4), -2);
        DUE.is("46: no model", g.taken(8, 0), -11);
        for (int far : Due.FAR) {
            DUE.is("46: k", g.taken(0, far), -2);
            DUE.is("46: model", g.taken(far, 3), -11);
        }
    }

    private static void counts() {
        GasTurn g = new GasTurn();
        for (int far : Due.FAR) DUE.is("47: bad", g.count(far), -2);
        DUE.is("47: bad", g.count(18), -2);
        Due.knots(g, 9);
        g.terminal(0);
        for (int k = 0; k < 8; k++) g.pipe(k, k + 1, 1);
        for (int i = 0; i < 4; i++) g.works(8, 500, 99);
        for (int i = 0; i < 5; i++) g.model(0, 0, 1, 1, 0);
        for (int i = 0; i < 6; i++) g.home(0, 1, i < 3 ? 31 : 0, 0);
        for (int i = 0; i < 7; i++) g.survey(0, 1);
        for (int i = 0; i < 10; i++) g.order(0, 1, 9);
        for (int i = 0; i < 6; i++) g.sector(1 << i);
        for (int i = 0; i < 3; i++) g.plan(i);
        for (int i = 0; i < 7; i++) g.fitter(1, 5, 0);
        for (int i = 0; i < 11; i++) g.smell(0, i);
        g.stock(0, 9);
        g.change(0);
        g.fault(0);
        g.fault(1);
        Due.law(g, "pay 1 class 1 from week 1");
        Due.feed(g, "pay 1 class 1");
        g.valve(7, 0);
        g.act(0, 2, 2);
        int[] due = {9, 8, 4, 5, 6, 7, 10, 6, 2, 7, 11, 2, 1, 1, 13, 2, 3, 4};
        for (int what = 0; what <= 17; what++) DUE.is("47: " + what, g.count(what), due[what]);
    }

    private static void sheets() {
        GasTurn g = new GasTurn();
        DUE.is("48: sheet 3", g.sheet(3, 0, 1), -2);
        DUE.is("48: sort 3", g.sheet(0, 3, 1), -2);
        DUE.is("48: sort -2", g.sheet(0, -2, 1), -2);
        DUE.is("48: n 41", g.sheet(0, 0, 41), -2);
        DUE.is("48: n -1", g.sheet(0, 0, -1), -14);
        DUE.is("48: bad ahead of -14", g.sheet(3, 0, -1), -2);
        DUE.is("48: bad ahead of -14", g.sheet(0, 3, -1), -2);
        DUE.is("48: far", g.sheet(0, 2, Integer.MIN_VALUE), -14);
        DUE.is("48: far", g.sheet(0, 2, Integer.MAX_VALUE), -2);
        for (int far : Due.FAR) DUE.is("48: sheet", g.sheet(far, 0, 1), -2);
        DUE.is("48: still missing", g.cell(0, 0, 0), -11);
        DUE.is("48: none", g.sheet(0, 0, 0), 1);
        DUE.is("48: of no items", g.cell(0, 0, 0), -12);
        DUE.is("48: 40", g.sheet(0, 2, 40), 1);
        DUE.is("48: the last", g.cell(0, 39, 5), 1);
        DUE.is("48: refused", g.sheet(0, 2, 41), -2);
        DUE.is("48: refused changed nothing", g.cell(0, 39, 5), 1);
        for (int far : Due.FAR) DUE.is("48: n does not matter", g.sheet(0, -1, far), 1);
        DUE.is("48: missing", g.cell(0, 39, 5), -11);
        GasTurn anew = laid(2, 3);
        anew.cell(0, 1, 1);
        anew.sheet(0, 2, 3);
        DUE.is("48: all 0", anew.lay(0, 0, 2, 1), -2);
        anew.cell(0, 1, 1);
        anew.sheet(0, 2, 1);
        anew.sheet(0, 2, 3);
        DUE.is("48: all 0", anew.lay(0, 0, 2, 1), -2);
    }

    /** One home and twelve models, so that items up to 4095 can be read as surveys; sheet 0 of a sort. */
    private static GasTurn laid(int sort, int n) {
        GasTurn g = new GasTurn();
        g.knot();
        for (int i = 0; i < 12; i++) g.model(0, 0, 1, 1, 0);
        g.home(0, 1, 31, 0);
        g.sheet(0, sort, n);
        return g;
    }

    private static int item(GasTurn g, int sheet, int sort, int i) {
        int number = g.lay(0, sheet, sort, i);
        return number < 0 ? number : g.known(0, number);
    }

    private static void cells() {
        GasTurn g = laid(0, 2);
        DUE.is("49: sheet 3", g.cell(3, 0, 0), -2);
        DUE.is("49: sheet -1", g.cell(-1, 0, 0), -2);
        DUE.is("49: missing", g.cell(1, 0, 0), -11);
        DUE.is("49: missing ahead of no item", g.cell(1, 99, 0), -11);
        DUE.is("49: no item", g.cell(0, 2, 0), -12);
        for (int far : Due.FAR) {
            DUE.is("49: sheet", g.cell(far, 0, 0), -2);
            DUE.is("49: item", g.cell(0, far, 0), -12);
        }
        DUE.is("49: becomes", g.cell(0, 0, 0x7f05), 1);
        DUE.is("49: the lowest 8 bits", item(g, 0, 0, 0), 5);
        DUE.is("49: the other one is 0", item(g, 0, 0, 1), -2);
        GasTurn shorts = laid(1, 2);
        shorts.cell(0, 1, 0x70f05);
        DUE.is("49: the lowest 16 bits", item(shorts, 0, 1, 1), 0xf05);
        GasTurn ints = laid(2, 2);
        ints.cell(0, 1, 0x70f05);
        DUE.is("49: all bits", item(ints, 0, 2, 1), -2);
        ints.cell(0, 1, 0xf05);
        DUE.is("49: all bits", item(ints, 0, 2, 1), 0xf05);
    }

    private static void items(String what, GasTurn g, int sheet, int... due) {
        for (int i = 0; i < due.length; i++) DUE.is(what + ": item " + i, item(g, sheet, 2, i), due[i]);
    }

    private static GasTurn five() {
        GasTurn g = laid(2, 5);
        for (int i = 0; i < 5; i++) g.cell(0, i, i + 1);
        return g;
    }

    private static void copies() {
        GasTurn up = five();
        DUE.is("50: up", up.copy(0, 0, 0, 2, 3), 3);
        items("50: as they were before", up, 0, 1, 2, 1, 2, 3);
        GasTurn down = five();
        DUE.is("50: down", down.copy(0, 1, 0, 0, 4), 4);
        items("50: as they were before", down, 0, 2, 3, 4, 5, 5);
        GasTurn over = five();
        over.sheet(2, 2, 3);
        DUE.is("50: over", over.copy(0, 3, 2, 1, 2), 2);
        items("50: over", over, 2, -2, 4, 5);
        items("50: stay", over, 0, 1, 2, 3, 4, 5);
        DUE.is("50: none", over.copy(0, 5, 2, 3, 0), 0);
        DUE.is("50: itself", over.copy(0, 0, 0, 0, 5), 5);
        items("50: stay", over, 0, 1, 2, 3, 4, 5);
    }

    private static void copiesRefused() {
        GasTurn g = five();
        DUE.is("50: sheet 3", g.copy(3, 0, 0, 0, 1), -2);
        DUE.is("50: other 3", g.copy(0, 0, 3, 0, 1), -2);
        DUE.is("50: bad ahead of missing", g.copy(1, 0, -1, 0, 1), -2);
        DUE.is("50: missing", g.copy(1, 0, 0, 0, 1), -11);
        DUE.is("50: other missing", g.copy(0, 0, 1, 0, 99), -11);
        g.sheet(1, 1, 5);
        g.sheet(2, 2, 3);
        DUE.is("50: sorts", g.copy(0, 0, 1, 0, 1), -13);
        DUE.is("50: sorts ahead of ends", g.copy(0, 9, 1, 9, 9), -13);
        DUE.is("50: n 0 of other sorts", g.copy(0, 0, 1, 0, 0), -13);
        DUE.is("50: beyond the other's end", g.copy(0, 0, 2, 0, 4), -12);
        DUE.is("50: beyond the other's end", g.copy(0, 0, 2, 1, 3), -12);
        DUE.is("50: beyond its end", g.copy(0, 4, 2, 0, 2), -12);
        DUE.is("50: i beyond, n 0", g.copy(0, 6, 2, 0, 0), -12);
        DUE.is("50: j beyond, n 0", g.copy(0, 0, 2, 4, 0), -12);
        for (int far : Due.FAR) {
            DUE.is("50: sheet", g.copy(far, 0, 0, 0, 1), -2);
            DUE.is("50: other", g.copy(0, 0, far, 0, 1), -2);
            DUE.is("50: i", g.copy(0, far, 2, 0, 1), -12);
            DUE.is("50: j", g.copy(0, 0, 2, far, 1), -12);
            DUE.is("50: n", g.copy(0, 0, 2, 0, far), -12);
            DUE.is("50: i and n", g.copy(0, far, 2, 0, far), -12);
            DUE.is("50: all", g.copy(0, far, 0, far, Integer.MAX_VALUE), -12);
        }
        items("50: refused changed nothing", g, 0, 1, 2, 3, 4, 5);
    }
}
