/** Promises 15 to 21: models, homes, surveys. */
public final class HomesTest {
    private static final Due DUE = new Due();

    public static void main(String[] args) {
        models();
        homes();
        surveys();
        surveysAreFull();
        laying();
        layingSorts();
        known();
        needs();
        homeParts();
        DUE.end();
    }

    private static void models() {
        GasTurn g = new GasTurn();
        int[][] edges = {{0, 3}, {0, 4}, {1, 9}, {1, 8}, {0, 3}};
        for (int place = 0; place < 5; place++) {
            for (int end = 0; end < 2; end++) {
                int[] n = {1, 1, 2, 2, 2};
                n[place] = edges[place][end] + (end == 0 ? -1 : 1);
                DUE.is("15: bad " + place, g.model(n[0], n[1], n[2], n[3], n[4]), -2);
            }
            for (int far : Due.FAR) {
                int[] n = {1, 1, 2, 2, 2};
                n[place] = far;
                DUE.is("15: far " + place, g.model(n[0], n[1], n[2], n[3], n[4]), -2);
            }
        }
        DUE.is("15: least", g.model(0, 0, 1, 1, 0), 0);
        DUE.is("15: most", g.model(3, 4, 9, 8, 3), 1);
        for (int i = 2; i < 12; i++) DUE.is("15: model", g.model(i % 4, 2, 3, 4, 1), i);
        DUE.is("15: full", g.model(0, 0, 1, 1, 0), -4);
        DUE.is("15: bad ahead of full", g.model(0, 0, 0, 1, 0), -2);
        DUE.is("15: count", g.count(3), 12);
    }

    private static void homes() {
        GasTurn g = new GasTurn();
        DUE.is("16: nothing", g.home(0, 1, 1, 0), -1);
        g.knot();
        DUE.is("16: no model", g.home(0, 1, 1, 0), -1);
        g.model(0, 0, 1, 1, 0);
        DUE.is("16: no knot", g.home(1, 1, 1, 0), -1);
        DUE.is("16: none ahead of bad", g.home(0, 0, 99, 1), -1);
        for (int far : Due.FAR) {
            DUE.is("16: knot", g.home(far, 1, 1, 0), -1);
            DUE.is("16: model", g.home(0, 1, 1, far), -1);
            DUE.is("16: use", g.home(0, far, 1, 0), -2);
            DUE.is("16: days", g.home(0, 1, far, 0), -2);
        }
        DUE.is("16: use 0", g.home(0, 0, 1, 0), -2);
        DUE.is("16: use 21", g.home(0, 21, 1, 0), -2);
        DUE.is("16: days 32", g.home(0, 1, 32, 0), -2);
        DUE.is("16: least", g.home(0, 1, 0, 0), 0);
        DUE.is("16: most", g.home(0, 20, 31, 0), 1);
        for (int i = 2; i < 40; i++) DUE.is("16: home", g.home(0, 2, 3, 0), i);
        DUE.is("16: full", g.home(0, 2, 3, 0), -4);
        DUE.is("16: bad ahead of full", g.home(0, 0, 3, 0), -2);
        DUE.is("16: none ahead of full", g.home(0, 2, 3, 5), -1);
        DUE.is("16: count", g.count(4), 40);
    }

    /** Homes 0 and 1 at knot 0, and so many models: model i takes i + 1 of jet i % 5. */
    private static GasTurn town(int models) {
        GasTurn g = new GasTurn();
        g.knot();
        for (int i = 0; i < models; i++) g.model(i % 4, i % 5, i % 9 + 1, 1, 0);
        g.home(0, 1, 31, 0);
        g.home(0, 1, 31, 0);
        return g;
    }

    private static void surveys() {
        GasTurn g = town(3);
        DUE.is("17: none", g.survey(2, 1), -1);
        DUE.is("17: none ahead of bad", g.survey(2, 0), -1);
        DUE.is("17: no models", g.survey(0, 0), -2);
        DUE.is("17: bit 3", g.survey(0, 8), -2);
        DUE.is("17: bit 3 among others", g.survey(0, 9), -2);
        DUE.is("17: bit 31", g.survey(0, Integer.MIN_VALUE), -2);
        DUE.is("17: all bits", g.survey(0, -1), -2);
        for (int far : Due.FAR) DUE.is("17: none", g.survey(far, 1), -1);
        DUE.is("17: nothing yet", g.count(5), 0);
        DUE.is("17: first", g.survey(0, 7), 1);
        DUE.is("17: second", g.survey(1, 2), 2);
        DUE.is("17: the same home", g.survey(0, 4), 3);
        DUE.is("17: count", g.count(5), 3);
        GasTurn all = town(12);
        DUE.is("17: twelve models", all.survey(0, 4095), 1);
        DUE.is("17: a thirteenth", all.survey(0, 4096), -2);
    }

    private static void surveysAreFull() {
        GasTurn g = town(1);
        for (int i = 1; i <= 300; i++) DUE.is("17: survey", g.survey(i % 2, 1), i);
        DUE.is("17: full", g.survey(0, 1), -4);
        DUE.is("17: bad ahead of full", g.survey(0, 2), -2);
        DUE.is("17: none ahead of full", g.survey(2, 1), -1);
        g.sheet(0, 0, 1);
        DUE.is("18: bad ahead of full", g.lay(0, 0, 0, 0), -2);
        g.cell(0, 0, 1);
        DUE.is("18: full", g.lay(0, 0, 0, 0), -4);
        DUE.is("17: count", g.count(5), 300);
        DUE.is("19: known at 300", g.known(0, 300), 1);
    }

    private static void laying() {
        GasTurn g = town(3);
        DUE.is("18: missing", g.lay(0, 0, 0, 0), -11);
        DUE.is("18: missing, of no sort", g.lay(0, 0, 2, 9), -11);
        DUE.is("18: no home", g.lay(2, 5, 5, 5), -1);
        DUE.is("18: no sheet", g.lay(0, 3, 0, 0), -2);
        DUE.is("18: no sheet", g.lay(0, -1, 0, 0), -2);
        DUE.is("18: no sort", g.lay(0, 0, 3, 0), -2);
        DUE.is("18: no sort", g.lay(0, 0, -1, 0), -2);
        g.sheet(0, 1, 2);
        g.cell(0, 0, 5);
        DUE.is("18: another sort", g.lay(0, 0, 0, 9), -13);
        DUE.is("18: another sort", g.lay(0, 0, 2, 0), -13);
        DUE.is("18: no item", g.lay(0, 0, 1, 2), -12);
        DUE.is("18: no item", g.lay(0, 0, 1, -1), -12);
        DUE.is("18: item 1 is 0", g.lay(0, 0, 1, 1), -2);
        DUE.is("18: laid", g.lay(0, 0, 1, 0), 1);
        DUE.is("18: known", g.known(0, 1), 5);
        g.cell(0, 1, 8);
        DUE.is("18: a bit of none", g.lay(1, 0, 1, 1), -2);
        g.cell(0, 1, 65536 + 3);
        DUE.is("18: the lowest 16 bits", g.lay(1, 0, 1, 1), 2);
        DUE.is("18: known", g.known(1, 2), 3);
        for (int far : Due.FAR) {
            DUE.is("18: no home", g.lay(far, 0, 1, 0), -1);
            DUE.is("18: no sheet", g.lay(0, far, 1, 0), -2);
            DUE.is("18: no sort", g.lay(0, 0, far, 0), -2);
            DUE.is("18: no item", g.lay(0, 0, 1, far), -12);
        }
        g.sheet(0, -1, 0);
        DUE.is("18: missing again", g.lay(0, 0, 1, 0), -11);
        g.sheet(0, 0, 0);
        DUE.is("18: no items at all", g.lay(0, 0, 0, 0), -12);
    }

    private static void layingSorts() {
        GasTurn g = town(9);
        g.sheet(0, 0, 1);
        g.sheet(1, 1, 1);
        g.sheet(2, 2, 1);
        for (int s = 0; s < 3; s++) g.cell(s, 0, 256 + 3);
        DUE.is("18: a byte has 8 bits", g.lay(0, 0, 0, 0), 1);
        DUE.is("18: 3", g.known(0, 1), 3);
        DUE.is("18: a short has more", g.lay(0, 1, 1, 0), 2);
        DUE.is("18: 259", g.known(0, 2), 259);
        DUE.is("18: an int, too", g.lay(0, 2, 2, 0), 3);
        DUE.is("18: 259", g.known(0, 3), 259);
        for (int s = 0; s < 3; s++) g.cell(s, 0, 65536 + 1);
        DUE.is("18: 1", g.lay(0, 0, 0, 0), 4);
        DUE.is("18: 1", g.lay(0, 1, 1, 0), 5);
        DUE.is("18: bit 16", g.lay(0, 2, 2, 0), -2);
        g.cell(0, 0, 200);
        DUE.is("18: 200 as a byte is below 0, with bits of none", g.lay(0, 0, 0, 0), -2);
    }

    private static void known() {
        GasTurn g = town(2);
        DUE.is("19: all models", g.known(0, 0), 3);
        DUE.is("19: all models, far k", g.known(0, Integer.MAX_VALUE), 3);
        g.survey(0, 1);
        g.survey(1, 2);
        g.survey(0, 2);
        g.survey(0, 3);
        DUE.is("19: at 0", g.known(0, 0), 3);
        DUE.is("19: at 1", g.known(0, 1), 1);
        DUE.is("19: at 2", g.known(0, 2), 1);
        DUE.is("19: at 3", g.known(0, 3), 2);
        DUE.is("19: at 4", g.known(0, 4), 3);
        DUE.is("19: above", g.known(0, 99), 3);
        DUE.is("19: the other at 1", g.known(1, 1), 3);
        DUE.is("19: the other at 2", g.known(1, 2), 2);
        DUE.is("19: the other above", g.known(1, Integer.MAX_VALUE), 2);
        g.model(0, 0, 1, 1, 0);
        DUE.is("19: all models that there are now", g.known(0, 0), 7);
        DUE.is("19: a survey stays", g.known(0, 4), 3);
        DUE.is("19: no k", g.known(0, -1), -5);
        DUE.is("19: no k", g.known(0, Integer.MIN_VALUE), -5);
        for (int far : Due.FAR) DUE.is("19: no home", g.known(far, 0), -5);
        DUE.is("19: no home", g.known(2, 0), -5);
    }

    private static void needs() {
        GasTurn g = new GasTurn();
        Due.knots(g, 3);
        g.model(0, 0, 4, 1, 0);
        g.model(1, 0, 7, 1, 0);
        g.model(2, 3, 9, 1, 0);
        g.home(0, 1, 31, 0);
        g.home(1, 1, 31, 2);
        g.home(2, 1, 31, 0);
        DUE.is("20: no sector", g.need(0, 0, 0, 0), -5);
        g.sector(3);
        g.sector(4);
        DUE.is("20: least of all", g.need(0, 0, 0, 0), 0);
        DUE.is("20: most of all", g.need(0, 0, 0, 1), 14);
        DUE.is("20: jet 3", g.need(0, 3, 0, 1), 18);
        DUE.is("20: jet 4", g.need(0, 4, 0, 1), 0);
        DUE.is("20: one home", g.need(1, 0, 0, 1), 7);
        g.survey(0, 3);
        g.survey(1, 2);
        DUE.is("20: least at 1", g.need(0, 0, 1, 0), 4);
        DUE.is("20: most at 1", g.need(0, 0, 1, 1), 14);
        DUE.is("20: least at 2, wrong as it is", g.need(0, 0, 2, 0), 11);
        DUE.is("20: most at 2", g.need(0, 0, 2, 1), 14);
        DUE.is("20: jet 3 at 2", g.need(0, 3, 2, 1), 0);
        DUE.is("20: above", g.need(0, 0, Integer.MAX_VALUE, 0), 11);
        DUE.is("20: still at 0", g.need(0, 0, 0, 0), 0);
        g.terminal(2);
        g.stock(0, 99);
        DUE.is("20: sector 2", g.need(2, 0, 0, 0), -5);
        DUE.is("20: jet 5", g.need(0, 5, 0, 0), -5);
        DUE.is("20: k -1", g.need(0, 0, -1, 0), -5);
        DUE.is("20: most 2", g.need(0, 0, 0, 2), -5);
        for (int far : Due.FAR) {
            DUE.is("20: sector", g.need(far, 0, 0, 0), -5);
            DUE.is("20: jet", g.need(0, far, 0, 0), -5);
            DUE.is("20: most", g.need(0, 0, 0, far), -5);
        }
        g.works(0, 500, 9);
        g.pipe(0, 1, 1);
        DUE.is("20: changed", g.change(1), 0);
        DUE.is("20: a home that is shut needs on", g.need(1, 0, 0, 1), 7);
    }

    private static void homeParts() {
        GasTurn g = new GasTurn();
        Due.knots(g, 2);
        g.model(0, 0, 2, 3, 1);
        g.home(1, 17, 12, 0);
        int[] old = {1, 17, 12, 0, -1, -1, -1, 0};
        for (int what = 0; what < 8; what++) DUE.is("21: old " + what, g.homeOf(0, what), old[what]);
        g.home(1, 3, 0, 0);
        g.terminal(1);
        g.sector(2);
        g.fitter(0, 10, 0);
        g.fitter(2, 3, 0);
        g.stock(0, 4);
        g.week();
        g.week();
        DUE.is("21: changed", g.change(0), 1);
        g.fault(0);
        int[] changed = {1, 17, 12, 1, 1, 2, 2, 1};
        for (int what = 0; what < 8; what++) DUE.is("21: changed " + what, g.homeOf(0, what), changed[what]);
        int[] shut = {1, 3, 0, 2, -1, -1, -1, 0};
        for (int what = 0; what < 8; what++) DUE.is("21: shut " + what, g.homeOf(1, what), shut[what]);
        g.week();
        g.later(1, 1);
        int[] later = {1, 3, 0, 1, 1, 4, 5, 0};
        for (int what = 0; what < 8; what++) DUE.is("21: later " + what, g.homeOf(1, what), later[what]);
        DUE.is("21: what 8", g.homeOf(0, 8), -5);
        DUE.is("21: home 2", g.homeOf(2, 0), -5);
        for (int far : Due.FAR) {
            DUE.is("21: home", g.homeOf(far, 0), -5);
            DUE.is("21: what", g.homeOf(0, far), -5);
        }
    }
}
