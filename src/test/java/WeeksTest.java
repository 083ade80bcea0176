/** Promises 31 to 35: fitters, changing, weeks, later, danger. */
public final class WeeksTest {
    private static final Due DUE = new Due();

    public static void main(String[] args) {
        fitters();
        changeRefused();
        changeValvesAndWorks();
        changeByDays();
        changeByHours();
        changeByClassAndStock();
        changeFittersInTurn();
        weeks();
        coalIsParted();
        coalByGroups();
        later();
        danger();
        DUE.end();
    }

    private static void fitters() {
        GasTurn g = new GasTurn();
        DUE.is("31: no knot", g.fitter(0, 1, 0), -1);
        g.knot();
        DUE.is("31: classes -1", g.fitter(-1, 1, 0), -2);
        DUE.is("31: classes 16", g.fitter(16, 1, 0), -2);
        DUE.is("31: hours 0", g.fitter(1, 0, 0), -2);
        DUE.is("31: hours 11", g.fitter(1, 11, 0), -2);
        DUE.is("31: none ahead of bad", g.fitter(16, 0, 1), -1);
        for (int far : Due.FAR) {
            DUE.is("31: knot", g.fitter(1, 1, far), -1);
            DUE.is("31: classes", g.fitter(far, 1, 0), -2);
            DUE.is("31: hours", g.fitter(1, far, 0), -2);
        }
        DUE.is("31: least", g.fitter(0, 1, 0), 0);
        DUE.is("31: most", g.fitter(15, 10, 0), 1);
        for (int i = 2; i < 8; i++) DUE.is("31: fitter", g.fitter(1, 1, 0), i);
        DUE.is("31: full", g.fitter(1, 1, 0), -4);
        DUE.is("31: bad ahead of full", g.fitter(1, 0, 0), -2);
        DUE.is("31: none ahead of full", g.fitter(1, 1, 1), -1);
        DUE.is("31: count", g.count(9), 8);
    }

    private static void changeRefused() {
        GasTurn g = new GasTurn();
        Due.knots(g, 2);
        g.pipe(0, 1, 1);
        g.sector(1);
        g.sector(2);
        DUE.is("32: none", g.change(2), -1);
        for (int far : Due.FAR) DUE.is("32: none", g.change(far), -1);
        DUE.is("32: not fed", g.change(0), -3);
        DUE.is("32: no week went", g.count(13), 0);
        DUE.is("32: no valve was shut", g.count(15), 0);
        g.terminal(0);
        for (int w = 1; w <= 199; w++) g.week();
        DUE.is("32: in week 199", g.change(0), 0);
        DUE.is("32: week", g.count(13), 200);
        DUE.is("32: may be next", g.why(1), 0);
        DUE.is("32: week 200", g.change(1), -3);
        DUE.is("32: still not changed", g.why(1), 0);
    }

    private static void changeValvesAndWorks() {
        GasTurn g = new GasTurn();
        Due.knots(g, 5);
        g.pipe(0, 1, 1);
        g.pipe(1, 2, 1);
        g.pipe(1, 2, 1);
        g.pipe(2, 3, 1);
        g.pipe(3, 4, 1);
        g.pipe(0, 1, 0);
        g.valve(0, 0);
        g.valve(3, 0);
        g.valve(4, 0);
        g.terminal(0);
        g.works(1, 9, 9);
        g.works(2, 9, 9);
        g.sector(3);
        g.sector(4);
        DUE.is("32: changed", g.change(0), 0);
        int[] first = {1, 0, 0, 0, 0, 1};
        for (int p = 0; p < 6; p++) DUE.is("32: pipe " + p, g.pipeOf(p, 3), first[p]);
        DUE.is("32: its work is closed", g.work(0, 3), 0);
        DUE.is("32: not the other", g.work(1, 3), 1);
        DUE.is("32: gas", g.gas(1), 2);
        DUE.is("32: gas", g.gas(2), 1);
        g.valve(3, 1);
        g.valve(4, 1);
        DUE.is("32: changed", g.change(1), 0);
        int[] then = {1, 1, 1, 0, 1, 1};
        for (int p = 0; p < 6; p++) DUE.is("32: pipe " + p, g.pipeOf(p, 3), then[p]);
        DUE.is("32: closed now", g.work(1, 3), 0);
        DUE.is("32: valves", g.count(15), 1);
        DUE.is("32: why", g.why(0), 1);
    }

    /** One knot with the terminal as a sector. */
    private static GasTurn village() {
        GasTurn g = new GasTurn();
        g.knot();
        g.terminal(0);
        g.sector(1);
        return g;
    }

    private static void isFitted(String what, GasTurn g, int home, int fitter, int day) {
        DUE.is(what + ": state", g.homeOf(home, 3), fitter < 0 ? 2 : 1);
        DUE.is(what + ": fitter", g.homeOf(home, 4), fitter);
        DUE.is(what + ": week", g.homeOf(home, 5), fitter < 0 ? -1 : 0);
        DUE.is(what + ": day", g.homeOf(home, 6), day);
    }

    private static void changeByDays() {
        GasTurn g = village();
        g.model(0, 0, 1, 1, 0);
        g.home(0, 1, 0, 0);
        for (int d = 0; d < 5; d++) g.home(0, 1, 1 << d, 0);
        g.home(0, 1, 24, 0);
        g.fitter(1, 10, 0);
        g.stock(0, 50);
        DUE.is("32: all but the one that nobody lets in", g.change(0), 6);
        isFitted("32: nobody lets in", g, 0, -1, -1);
        for (int d = 0; d < 5; d++) isFitted("32: day " + d, g, d + 1, 0, d);
        isFitted("32: the first of two days", g, 6, 0, 3);
        DUE.is("32: jets went", g.stock(0, 0), 44);
        DUE.is("32: shut", g.count(16), 1);
        DUE.is("32: week", g.count(13), 1);
        DUE.is("32: no more", g.change(0), -3);
    }

    private static void changeByHours() {
        GasTurn g = village();
        g.model(0, 0, 1, 4, 0);
        g.model(0, 0, 1, 3, 0);
        for (int i = 0; i < 3; i++) g.home(0, 1, 1, 0);
        g.home(0, 1, 1, 1);
        g.home(0, 1, 3, 1);
        g.fitter(1, 7, 0);
        g.stock(0, 50);
        DUE.is("32: 4 and 3 on day 0, 3 on day 1", g.change(0), 3);
        isFitted("32: 4", g, 0, 0, 0);
        isFitted("32: 4 more are too many", g, 1, -1, -1);
        isFitted("32: 4 more are too many", g, 2, -1, -1);
        isFitted("32: 3 just fit", g, 3, 0, 0);
        isFitted("32: next day", g, 4, 0, 1);
    }

    private static void changeByClassAndStock() {
        GasTurn g = village();
        g.model(0, 0, 5, 1, 2);
        g.model(0, 0, 2, 1, 3);
        g.model(0, 1, 9, 1, 3);
        g.home(0, 1, 31, 0);
        g.home(0, 1, 31, 0);
        g.home(0, 1, 31, 1);
        g.home(0, 1, 31, 2);
        g.fitter(1, 10, 0);
        g.fitter(12, 10, 0);
        g.stock(0, 7);
        g.stock(1, 8);
        DUE.is("32: 5 and 2 of 7", g.change(0), 2);
        isFitted("32: class 2", g, 0, 1, 0);
        isFitted("32: stock has 2 alone", g, 1, -1, -1);
        isFitted("32: these go here", g, 2, 1, 0);
        isFitted("32: 9 of 8", g, 3, -1, -1);
        DUE.is("32: none left", g.stock(0, 0), 0);
        DUE.is("32: these stay", g.stock(1, 0), 8);
    }

    private static void changeFittersInTurn() {
        GasTurn g = village();
        g.model(0, 0, 1, 2, 0);
        for (int i = 0; i < 7; i++) g.home(0, 1, 31, 0);
        g.fitter(1, 2, 0);
        g.fitter(1, 5, 0);
        g.stock(0, 50);
        DUE.is("32: all", g.change(0), 7);
        int[][] who = {{0, 0}, {1, 0}, {1, 0}, {0, 1}, {1, 1}, {1, 1}, {0, 2}};
        for (int i = 0; i < 7; i++) isFitted("32: home " + i, g, i, who[i][0], who[i][1]);
        GasTurn apart = new GasTurn();
        Due.knots(apart, 2);
        apart.pipe(0, 1, 1);
        apart.terminal(0);
        apart.works(1, 99, 99);
        apart.sector(1);
        apart.sector(2);
        apart.model(0, 0, 1, 1, 0);
        apart.fitter(1, 5, 0);
        apart.stock(0, 9);
        apart.home(1, 1, 31, 0);
        DUE.is("32: homes of others are not its own", apart.change(0), 0);
        apart.home(0, 1, 31, 0);
        DUE.is("32: nor these of sectors that are changed", apart.change(1), 1);
        DUE.is("32: it stays old", apart.homeOf(1, 3), 0);
    }

    private static void weeks() {
        GasTurn g = new GasTurn();
        g.order(2, 3, 200);
        for (int w = 1; w <= 200; w++) DUE.is("33: week", g.week(), w);
        DUE.is("33: the last", g.week(), -3);
        DUE.is("33: count", g.count(13), 200);
        DUE.is("33: what comes in it is there", g.stock(2, 0), 3);
        DUE.is("33: no more orders", g.order(2, 3, 200), -2);
    }

    private static void coalIsParted() {
        GasTurn g = new GasTurn();
        Due.knots(g, 2);
        g.pipe(0, 1, 1);
        g.model(0, 0, 1, 1, 0);
        g.works(1, 5, 100);
        g.works(0, 5, 100);
        g.works(0, 5, 100);
        g.works(0, 5, 100);
        g.close(1);
        for (int i = 0; i < 3; i++) g.home(i % 2, 20, 31, 0);
        g.home(0, 1, 31, 0);
        g.week();
        int[] coal = {97, 100, 98, 98};
        for (int w = 0; w < 4; w++) DUE.is("33: 21, 20, 20: coal " + w, g.work(w, 2), coal[w]);
        g.home(0, 1, 31, 0);
        g.week();
        int[] more = {94, 100, 95, 96};
        for (int w = 0; w < 4; w++) DUE.is("33: 21, 21, 20: coal " + w, g.work(w, 2), more[w]);
        for (int i = 0; i < 2; i++) g.home(0, 14, 31, 0);
        g.close(3);
        g.home(1, 9, 31, 0);
        g.week();
        DUE.is("33: 99 is 50 and 49", g.work(0, 2), 89);
        DUE.is("33: 99 is 50 and 49", g.work(2, 2), 90);
    }

    private static void coalByGroups() {
        GasTurn g = new GasTurn();
        Due.knots(g, 4);
        g.pipe(0, 1, 1);
        g.valve(0, 0);
        g.model(0, 0, 1, 1, 0);
        g.works(0, 1, 3);
        g.works(1, 1, 2);
        g.works(2, 1, 0);
        g.home(0, 11, 31, 0);
        g.home(1, 20, 31, 0);
        g.home(3, 20, 31, 0);
        g.week();
        DUE.is("33: 11 take 2", g.work(0, 2), 1);
        DUE.is("33: 20 take 2", g.work(1, 2), 0);
        DUE.is("33: just enough", g.work(1, 3), 1);
        DUE.is("33: without use none is needed", g.work(2, 3), 1);
        g.week();
        DUE.is("33: 1 is too little", g.work(0, 3), 0);
        DUE.is("33: and gone", g.work(0, 2), 0);
        DUE.is("33: nothing left", g.work(1, 3), 0);
        DUE.is("33: runs on", g.work(2, 3), 1);
        GasTurn three = new GasTurn();
        Due.knots(three, 2);
        three.model(0, 0, 1, 1, 0);
        for (int w = 0; w < 5; w++) three.works(w % 2, 1, 50);
        three.home(0, 20, 31, 0);
        three.home(0, 10, 31, 0);
        three.week();
        int[] coal = {49, 50, 49, 50, 49};
        for (int w = 0; w < 5; w++) DUE.is("33: each group once: coal " + w, three.work(w, 2), coal[w]);
        GasTurn mixed = new GasTurn();
        Due.knots(mixed, 2);
        mixed.pipe(0, 1, 1);
        mixed.terminal(0);
        mixed.sector(1);
        mixed.model(0, 0, 1, 1, 0);
        mixed.home(0, 20, 31, 0);
        mixed.home(0, 20, 0, 0);
        mixed.home(1, 10, 31, 0);
        mixed.works(1, 99, 99);
        mixed.fitter(1, 5, 0);
        mixed.stock(0, 5);
        DUE.is("33: one", mixed.change(0), 1);
        DUE.is("33: a change ends the week", mixed.work(0, 2), 98);
        mixed.valve(0, 1);
        mixed.week();
        DUE.is("33: old homes alone count", mixed.work(0, 2), 97);
    }

    private static void later() {
        GasTurn g = village();
        g.model(0, 0, 3, 8, 2);
        g.home(0, 1, 0, 0);
        g.home(0, 1, 0, 0);
        g.fitter(4, 1, 0);
        g.fitter(11, 10, 0);
        g.stock(0, 5);
        DUE.is("34: it is old", g.later(0, 0), -3);
        g.change(0);
        DUE.is("34: no home", g.later(2, 0), -1);
        DUE.is("34: no fitter", g.later(0, 2), -1);
        for (int far : Due.FAR) {
            DUE.is("34: home", g.later(far, 0), -1);
            DUE.is("34: fitter", g.later(0, far), -1);
        }
        DUE.is("34: class", g.later(0, 1), -3);
        DUE.is("34: hours and days do not matter", g.later(0, 0), 1);
        DUE.is("34: jets went", g.stock(0, 0), 2);
        DUE.is("34: state", g.homeOf(0, 3), 1);
        DUE.is("34: by", g.homeOf(0, 4), 0);
        DUE.is("34: week", g.homeOf(0, 5), 1);
        DUE.is("34: day", g.homeOf(0, 6), 5);
        DUE.is("34: stock", g.later(1, 0), -3);
        g.stock(0, 1);
        DUE.is("34: it is changed", g.later(0, 0), -3);
        g.home(0, 1, 31, 0);
        DUE.is("34: it is old", g.later(2, 0), -3);
        DUE.is("34: just enough", g.later(1, 0), 1);
        DUE.is("34: none shut", g.count(16), 0);
    }

    private static void danger() {
        GasTurn g = new GasTurn();
        Due.knots(g, 3);
        g.pipe(0, 1, 1);
        g.pipe(1, 2, 1);
        g.model(0, 0, 1, 1, 0);
        g.home(0, 1, 31, 0);
        g.home(0, 1, 0, 0);
        g.home(1, 1, 31, 0);
        DUE.is("35: no gas", g.danger(), 0);
        g.works(2, 99, 99);
        DUE.is("35: old", g.danger(), 0);
        g.terminal(0);
        DUE.is("35: both", g.danger(), 3);
        g.sector(1);
        g.fitter(1, 9, 0);
        g.stock(0, 9);
        g.change(0);
        DUE.is("35: parted", g.danger(), 0);
        g.valve(0, 1);
        DUE.is("35: both: the changed one and the old one", g.danger(), 2);
        g.terminal(-1);
        DUE.is("35: old: the changed one", g.danger(), 1);
        g.close(0);
        DUE.is("35: none", g.danger(), 0);
        g.terminal(2);
        DUE.is("35: new: the old one", g.danger(), 1);
    }
}
