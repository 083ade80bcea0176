/** Promises 1 to 14: a new object and the net. */
public final class NetTest {
    private static final Due DUE = new Due();

    public static void main(String[] args) {
        newObject();
        knots();
        pipes();
        valves();
        lostValves();
        pipeParts();
        works();
        closing();
        workParts();
        sparedWorks();
        terminal();
        gasAndArea();
        pressure();
        pressureIsCut();
        pressureByStates();
        steps();
        DUE.end();
    }

    private static void newObject() {
        GasTurn g = new GasTurn();
        for (int what = 0; what <= 17; what++) DUE.is("1: count " + what, g.count(what), 0);
        DUE.is("1: no terminal", g.terminal(-1), -1);
        DUE.is("1: limit", g.limit(30), 30);
        for (int jet = 0; jet < 5; jet++) DUE.is("1: stock", g.stock(jet, 0), 0);
        DUE.is("1: no danger", g.danger(), 0);
        DUE.is("1: no plan", g.unplan(), 0);
        DUE.is("1: no row", g.best(), -3);
        DUE.is("1: no best", g.bestAt(0), -1);
        DUE.is("1: no trace", g.trace(0), -1);
        for (int sheet = 0; sheet < 3; sheet++) DUE.is("1: sheets missing", g.cell(sheet, 0, 1), -11);
        GasTurn other = new GasTurn();
        g.knot();
        DUE.is("1: objects are apart", other.count(0), 0);
    }

    private static void knots() {
        GasTurn g = new GasTurn();
        for (int i = 0; i < 12; i++) DUE.is("2: knot", g.knot(), i);
        DUE.is("2: full", g.knot(), GasTurn.FULL);
        DUE.is("2: full again", g.knot(), GasTurn.FULL);
        DUE.is("2: full changes nothing", g.count(0), 12);
    }

    private static void pipes() {
        GasTurn g = new GasTurn();
        Due.knots(g, 3);
        for (int far : Due.FAR) {
            DUE.is("3: no knot a", g.pipe(far, 0, 1), -1);
            DUE.is("3: no knot b", g.pipe(0, far, 1), -1);
            if (far != 1) DUE.is("3: valve", g.pipe(0, 1, far), -2);
        }
        DUE.is("3: no knot 3", g.pipe(0, 3, 1), -1);
        DUE.is("3: no knot ahead of one knot", g.pipe(3, 3, 1), -1);
        DUE.is("3: no knot ahead of valve", g.pipe(0, 3, 2), -1);
        DUE.is("3: one knot", g.pipe(2, 2, 1), -2);
        DUE.is("3: valve 2", g.pipe(0, 1, 2), -2);
        DUE.is("3: nothing yet", g.count(1), 0);
        for (int i = 0; i < 20; i++) DUE.is("3: pipe", g.pipe(i % 3, (i + 1) % 3, i % 2), i);
        DUE.is("3: full", g.pipe(0, 1, 1), -4);
        DUE.is("3: bad ahead of full", g.pipe(1, 1, 1), -2);
        DUE.is("3: none ahead of full", g.pipe(1, 9, 1), -1);
        DUE.is("3: count", g.count(1), 20);
    }

    private static void valves() {
        GasTurn g = new GasTurn();
        Due.knots(g, 2);
        g.pipe(0, 1, 1);
        g.pipe(0, 1, 0);
        DUE.is("4: open at first", g.valve(0, 1), 1);
        DUE.is("4: shut", g.valve(0, 0), 1);
        DUE.is("4: shut again", g.valve(0, 0), 0);
        DUE.is("4: count", g.count(15), 1);
        DUE.is("4: opened", g.valve(0, 1), 0);
        DUE.is("4: count", g.count(15), 0);
        DUE.is("4: no valve", g.valve(1, 0), -3);
        DUE.is("4: bad ahead of state", g.valve(1, 2), -2);
        DUE.is("4: bad", g.valve(0, -1), -2);
        DUE.is("4: none ahead of bad", g.valve(2, 7), -1);
        for (int far : Due.FAR) DUE.is("4: none", g.valve(far, 1), -1);
        DUE.is("4: still open", g.pipeOf(1, 3), 1);
    }

    private static void lostValves() {
        GasTurn g = new GasTurn();
        Due.knots(g, 2);
        g.pipe(0, 1, 1);
        g.pipe(0, 1, 0);
        g.pipe(1, 0, 1);
        DUE.is("5: was open", g.lost(0), 1);
        DUE.is("5: lost already", g.lost(0), -3);
        DUE.is("5: never had one", g.lost(1), -3);
        g.valve(2, 0);
        DUE.is("5: was shut", g.lost(2), 0);
        DUE.is("5: open then", g.pipeOf(2, 3), 1);
        DUE.is("5: without one then", g.pipeOf(2, 2), 0);
        DUE.is("5: no valve to shut", g.valve(2, 0), -3);
        DUE.is("5: none shut", g.count(15), 0);
        DUE.is("5: area", g.area(0), 3);
        DUE.is("5: none", g.lost(3), -1);
        for (int far : Due.FAR) DUE.is("5: none", g.lost(far), -1);
    }

    private static void pipeParts() {
        GasTurn g = new GasTurn();
        Due.knots(g, 12);
        g.pipe(11, 4, 1);
        g.pipe(3, 7, 0);
        DUE.is("6: a", g.pipeOf(0, 0), 11);
        DUE.is("6: b", g.pipeOf(0, 1), 4);
        DUE.is("6: valve", g.pipeOf(0, 2), 1);
        DUE.is("6: open", g.pipeOf(0, 3), 1);
        DUE.is("6: no valve", g.pipeOf(1, 2), 0);
        DUE.is("6: open", g.pipeOf(1, 3), 1);
        g.valve(0, 0);
        DUE.is("6: shut", g.pipeOf(0, 3), 0);
        DUE.is("6: what 4", g.pipeOf(0, 4), -5);
        DUE.is("6: pipe 2", g.pipeOf(2, 0), -5);
        for (int far : Due.FAR) {
            DUE.is("6: pipe", g.pipeOf(far, 0), -5);
            DUE.is("6: what", g.pipeOf(0, far), -5);
        }
    }

    private static void works() {
        GasTurn g = new GasTurn();
        DUE.is("7: no knot", g.works(0, 1, 1), -1);
        Due.knots(g, 1);
        DUE.is("7: make 0", g.works(0, 0, 1), -2);
        DUE.is("7: make 501", g.works(0, 501, 1), -2);
        DUE.is("7: coal -1", g.works(0, 1, -1), -2);
        DUE.is("7: coal 10000", g.works(0, 1, 10000), -2);
        DUE.is("7: none ahead of bad", g.works(1, 0, -1), -1);
        DUE.is("7: least", g.works(0, 1, 0), 0);
        DUE.is("7: most", g.works(0, 500, 9999), 1);
        DUE.is("7: runs", g.work(1, 3), 1);
        for (int i = 2; i < 5; i++) DUE.is("7: work", g.works(0, 5, 5), i);
        DUE.is("7: full", g.works(0, 5, 5), -4);
        DUE.is("7: bad ahead of full", g.works(0, 0, 5), -2);
        DUE.is("7: none ahead of full", g.works(1, 5, 5), -1);
        DUE.is("7: count", g.count(2), 5);
    }

    private static void closing() {
        GasTurn g = new GasTurn();
        Due.knots(g, 1);
        g.works(0, 5, 7);
        DUE.is("8: none", g.close(1), -1);
        for (int far : Due.FAR) DUE.is("8: none", g.close(far), -1);
        DUE.is("8: gas", g.gas(0), 1);
        DUE.is("8: closed", g.close(0), 1);
        DUE.is("8: is closed", g.close(0), -3);
        DUE.is("8: does not run", g.work(0, 3), 0);
        DUE.is("8: coal stays", g.work(0, 2), 7);
        DUE.is("8: no gas", g.gas(0), 0);
    }

    private static void workParts() {
        GasTurn g = new GasTurn();
        Due.knots(g, 3);
        g.works(2, 40, 77);
        DUE.is("9: knot", g.work(0, 0), 2);
        DUE.is("9: make", g.work(0, 1), 40);
        DUE.is("9: coal", g.work(0, 2), 77);
        DUE.is("9: runs", g.work(0, 3), 1);
        DUE.is("9: none such", g.work(1, 0), -5);
        DUE.is("9: none such", g.work(0, 5), -5);
        for (int far : Due.FAR) {
            DUE.is("9: work", g.work(far, 0), -5);
            DUE.is("9: what", g.work(0, far), -5);
        }
    }

    private static void sparedWorks() {
        GasTurn g = new GasTurn();
        Due.knots(g, 3);
        g.pipe(0, 1, 1);
        g.works(0, 10, 0);
        g.works(1, 12, 0);
        g.works(2, 500, 0);
        g.model(0, 0, 1, 1, 0);
        DUE.is("9: no use, can be closed", g.work(2, 4), 1);
        g.home(0, 10, 31, 0);
        DUE.is("9: 12 are enough for 10", g.work(0, 4), 1);
        DUE.is("9: 10 are enough for 10", g.work(1, 4), 1);
        g.home(1, 1, 31, 0);
        DUE.is("9: 12 are enough for 11", g.work(0, 4), 1);
        DUE.is("9: 10 are not for 11", g.work(1, 4), 0);
        g.valve(0, 0);
        DUE.is("9: alone with 10", g.work(0, 4), 0);
        DUE.is("9: alone with 1", g.work(1, 4), 0);
        g.valve(0, 1);
        g.close(1);
        DUE.is("9: the other is closed", g.work(0, 4), 0);
        DUE.is("9: closed itself", g.work(1, 4), 0);
        g.close(2);
        DUE.is("9: closed without use", g.work(2, 4), 0);
    }

    private static void terminal() {
        GasTurn g = new GasTurn();
        DUE.is("10: no knot", g.terminal(0), -5);
        Due.knots(g, 2);
        DUE.is("10: at first", g.terminal(1), -1);
        DUE.is("10: was at 1", g.terminal(0), 1);
        DUE.is("10: no knot", g.terminal(2), -5);
        DUE.is("10: below -1", g.terminal(-2), -5);
        DUE.is("10: far", g.terminal(Integer.MIN_VALUE), -5);
        DUE.is("10: far", g.terminal(Integer.MAX_VALUE), -5);
        DUE.is("10: refused changed nothing", g.gas(0), 2);
        DUE.is("10: away", g.terminal(-1), 0);
        DUE.is("10: no gas", g.gas(0), 0);
        DUE.is("10: away again", g.terminal(-1), -1);
    }

    private static void gasAndArea() {
        GasTurn g = new GasTurn();
        Due.knots(g, 5);
        g.pipe(0, 1, 1);
        g.pipe(2, 1, 1);
        g.pipe(2, 3, 0);
        DUE.is("12: chain", g.area(0), 15);
        DUE.is("12: chain from its end", g.area(3), 15);
        DUE.is("12: alone", g.area(4), 16);
        g.valve(1, 0);
        DUE.is("12: cut", g.area(1), 3);
        DUE.is("12: cut", g.area(2), 12);
        g.terminal(0);
        g.works(3, 5, 5);
        DUE.is("11: new", g.gas(1), 2);
        DUE.is("11: old", g.gas(2), 1);
        DUE.is("11: none", g.gas(4), 0);
        g.works(4, 5, 5);
        DUE.is("11: old here", g.gas(4), 1);
        DUE.is("11: and there", g.gas(2), 1);
        g.close(1);
        g.valve(1, 1);
        for (int k = 0; k < 4; k++) DUE.is("11: both", g.gas(k), 3);
        DUE.is("11: none such", g.gas(5), -1);
        DUE.is("12: none such", g.area(5), -1);
        for (int far : Due.FAR) {
            DUE.is("11: none such", g.gas(far), -1);
            DUE.is("12: none such", g.area(far), -1);
        }
        GasTurn all = new GasTurn();
        Due.knots(all, 12);
        for (int k = 11; k > 0; k--) all.pipe(k, k - 1, 1);
        DUE.is("12: twelve in a chain", all.area(0), 4095);
        DUE.is("12: twelve in a chain", all.area(11), 4095);
    }

    private static void pressure() {
        GasTurn g = new GasTurn();
        Due.knots(g, 3);
        g.pipe(0, 1, 1);
        DUE.is("13: without gas", g.pressure(0), -1);
        g.works(0, 12, 999);
        g.model(0, 0, 1, 1, 0);
        DUE.is("13: without use", g.pressure(1), 4);
        g.home(1, 20, 31, 0);
        DUE.is("13: 60", g.pressure(0), 1);
        g.works(1, 4, 999);
        DUE.is("13: 80", g.pressure(0), 2);
        g.works(1, 4, 999);
        DUE.is("13: 100", g.pressure(1), 3);
        g.works(1, 9, 999);
        DUE.is("13: 145", g.pressure(1), 3);
        g.works(1, 1, 999);
        DUE.is("13: 150", g.pressure(1), 4);
        g.close(4);
        g.home(0, 5, 31, 0);
        DUE.is("13: 116", g.pressure(1), 3);
        g.close(3);
        DUE.is("13: 80", g.pressure(1), 2);
        g.home(0, 1, 31, 0);
        DUE.is("13: 76", g.pressure(1), 1);
        g.home(0, 8, 31, 0);
        DUE.is("13: 58", g.pressure(1), 0);
        g.terminal(1);
        DUE.is("13: both", g.pressure(0), -2);
        g.valve(0, 0);
        DUE.is("13: new", g.pressure(1), -2);
        for (int w = 0; w < 4; w++) g.close(w);
        DUE.is("13: new", g.pressure(1), 4);
        DUE.is("13: none there", g.pressure(0), -1);
        g.step(3, 9999);
        g.home(1, 20, 31, 0);
        DUE.is("13: 5000 by 40 is 12500", g.pressure(1), 4);
        for (int i = 0; i < 6; i++) g.home(1, 2, 31, 0);
        DUE.is("13: 5000 by 52 is 9615", g.pressure(1), 3);
        DUE.is("13: no knot", g.pressure(3), -5);
        for (int far : Due.FAR) DUE.is("13: no knot", g.pressure(far), -5);
    }

    private static void pressureIsCut() {
        GasTurn g = new GasTurn();
        g.knot();
        g.model(0, 0, 1, 1, 0);
        g.works(0, 1, 9);
        g.home(0, 1, 31, 0);
        DUE.is("13: 1 by 1 is 100", g.pressure(0), 3);
        g.home(0, 2, 31, 0);
        g.step(0, 33);
        DUE.is("13: 1 by 3 is 33", g.pressure(0), 1);
        g.step(0, 34);
        DUE.is("13: it is not 34", g.pressure(0), 0);
        g.close(0);
        g.terminal(0);
        for (int i = 0; i < 4; i++) g.home(0, 12, 31, 0);
        g.step(3, 9803);
        DUE.is("13: 5000 by 51 is 9803", g.pressure(0), 4);
        g.step(3, 9804);
        DUE.is("13: it is not 9804", g.pressure(0), 3);
    }

    private static void pressureByStates() {
        GasTurn g = new GasTurn();
        g.knot();
        g.terminal(0);
        g.sector(1);
        g.model(0, 0, 1, 1, 0);
        g.home(0, 10, 0, 0);
        g.home(0, 10, 31, 0);
        g.fitter(1, 5, 0);
        g.change(0);
        DUE.is("13: all are shut", g.pressure(0), 4);
        g.works(0, 6, 9);
        g.terminal(-1);
        g.stock(0, 1);
        DUE.is("9: shut homes use nothing", g.work(0, 4), 1);
        g.later(0, 0);
        DUE.is("13: changed ones use: 60", g.pressure(0), 1);
        DUE.is("9: changed ones use no old gas", g.work(0, 4), 1);
        g.home(0, 10, 31, 0);
        DUE.is("13: and old ones: 30", g.pressure(0), 0);
        DUE.is("9: old ones do", g.work(0, 4), 0);
    }

    private static void steps() {
        GasTurn g = new GasTurn();
        DUE.is("14: as it is", g.step(0, 60), 60);
        DUE.is("14: not rising", g.step(0, 80), -2);
        DUE.is("14: not rising", g.step(1, 60), -2);
        DUE.is("14: not rising", g.step(3, 100), -2);
        DUE.is("14: not rising", g.step(2, 150), -2);
        DUE.is("14: rising", g.step(2, 149), 100);
        DUE.is("14: rising", g.step(2, 100), 149);
        DUE.is("14: up to the next", g.step(0, 79), 60);
        DUE.is("14: down to the one before", g.step(3, 101), 150);
        DUE.is("14: 0", g.step(0, 0), -2);
        DUE.is("14: 1", g.step(0, 1), 79);
        DUE.is("14: 10000", g.step(3, 10000), -2);
        DUE.is("14: 9999", g.step(3, 9999), 101);
        DUE.is("14: was", g.step(3, 9999), 9999);
        DUE.is("14: none", g.step(4, 5), -1);
        DUE.is("14: none ahead of bad", g.step(4, 0), -1);
        for (int far : Due.FAR) {
            DUE.is("14: none", g.step(far, 70), -1);
            DUE.is("14: bad", g.step(1, far), -2);
        }
        DUE.is("14: refused changed nothing", g.step(1, 80), 80);
    }
}
