/** Promises 41 to 43: the tape, laws, bills. */
public final class LawsTest {
    private static final Due DUE = new Due();

    public static void main(String[] args) {
        feeding();
        goodTexts();
        faultsOfTexts();
        everyEarlyEnd();
        everyWrongByte();
        lawsAreFull();
        bills();
        DUE.end();
    }

    private static void feeding() {
        GasTurn g = new GasTurn();
        DUE.is("41: n -1", g.feed(1, -1), -2);
        DUE.is("41: n 5", g.feed(1, 5), -2);
        for (int far : Due.FAR) DUE.is("41: n", g.feed(1, far), -2);
        DUE.is("41: none", g.feed(1, 0), 0);
        for (int i = 1; i <= 14; i++) DUE.is("41: four each", g.feed(0x20202020, 4), 4 * i);
        DUE.is("41: three", g.feed(0, 3), 59);
        DUE.is("41: full", g.feed(0, 2), -4);
        DUE.is("41: full", g.feed(0, 4), -4);
        DUE.is("41: bad ahead of full", g.feed(0, 5), -2);
        DUE.is("41: one more", g.feed(0, 1), 60);
        DUE.is("41: full", g.feed(0, 1), -4);
        DUE.is("41: none", g.feed(0, 0), 60);
        DUE.is("41: count", g.count(14), 60);
        DUE.is("42: blanks are no law", g.law(), -10);
        DUE.is("42: the tape is empty then", g.count(14), 0);
        DUE.is("41: the highest of the lowest first", g.feed('x' << 24 | 'b' << 16 | 'a' << 8 | 'r', 3), 3);
        Due.feed(g, " sector 0 week 0 to 1");
        DUE.is("41: law", g.law(), 0);
        g.feed('b' << 24 | 'a' << 16 | 'r' << 8 | ' ', 4);
        g.feed('z' << 8 | 's', 1);
        DUE.is("41: the lowest byte alone", g.law(), -10 - 5);
        g.feed(0xff62, 2);
        DUE.is("41: bytes above 127", g.law(), -10);
    }

    private static void goodTexts() {
        GasTurn g = new GasTurn();
        String[] good = {"bar sector 0 week 0 to 0", "bar sector 9 week 999 to 000", "bar sector 6 week 01 to 12",
            "pay 0 class 0 from week 0", "pay 9999 class 9 from week 999", "pay 0001 class 3 from week 07"};
        for (int i = 0; i < good.length; i++) {
            DUE.is("42: " + good[i], Due.law(g, good[i]), i);
            DUE.is("42: the tape is empty then", g.count(14), 0);
            DUE.is("42: count", g.count(12), i + 1);
        }
    }

    private static void faultAt(String text, int place) {
        GasTurn g = new GasTurn();
        DUE.is("42: " + text, Due.law(g, text), -10 - place);
        DUE.is("42: the tape is empty then", g.count(14), 0);
        DUE.is("42: no law", g.count(12), 0);
    }

    private static void faultsOfTexts() {
        faultAt("", 0);
        faultAt("x", 0);
        faultAt(" bar sector 0 week 0 to 0", 0);
        faultAt("Bar sector 0 week 0 to 0", 0);
        faultAt("bay", 2);
        faultAt("par", 2);
        faultAt("bar  sector 0 week 0 to 0", 4);
        faultAt("bar sector 10 week 0 to 0", 12);
        faultAt("bar sector  week 0 to 0", 11);
        faultAt("bar sector a week 0 to 0", 11);
        faultAt("bar sector 0 week 1234 to 0", 21);
        faultAt("bar sector 0 week 123 to 4567", 28);
        faultAt("bar sector 0 week 1 to 2 ", 24);
        faultAt("bar sector 0 week -1 to 2", 18);
        faultAt("bar class 0 week 1 to 2", 4);
        faultAt("pay 12345 class 0 from week 0", 8);
        faultAt("pay class 0 from week 0", 4);
        faultAt("pay 1 class 22 from week 0", 13);
        faultAt("pay 1 class 2 week 0", 14);
        faultAt("pay 1 class 2 from week 0 to 3", 25);
        faultAt("pay 1 class 2 from week 1000", 27);
        faultAt("pay 1 class 2 from week 1\n", 25);
        faultAt("pay 1/class 2 from week 1", 5);
        faultAt("pay 1: class 2 from week 1", 5);
    }

    private static void everyEarlyEnd() {
        String[] texts = {"bar sector 3 week 12 to 1", "pay 1234 class 1 from week 1"};
        for (String text : texts) {
            for (int n = 0; n < text.length(); n++) faultAt(text.substring(0, n), n);
        }
    }

    private static void everyWrongByte() {
        String[] texts = {"bar sector 3 week 123 to 123", "pay 1234 class 1 from week 123"};
        for (String text : texts) {
            for (int n = 0; n <= text.length(); n++) {
                faultAt(text.substring(0, n) + (char) 200 + text.substring(Math.min(n + 1, text.length())), n);
            }
        }
    }

    private static void lawsAreFull() {
        GasTurn g = new GasTurn();
        for (int i = 0; i < 10; i++) DUE.is("42: law", Due.law(g, "bar sector 1 week 0 to 5"), i);
        Due.feed(g, "bar");
        DUE.is("42: full ahead of the fault", g.law(), -4);
        DUE.is("42: the tape stays", g.count(14), 3);
        Due.feed(g, " sector 1 week 0 to 5");
        DUE.is("42: full", g.law(), -4);
        DUE.is("42: the tape stays", g.count(14), 24);
        DUE.is("42: count", g.count(12), 10);
    }

    private static void bills() {
        GasTurn g = new GasTurn();
        g.knot();
        g.terminal(0);
        g.sector(1);
        g.model(0, 0, 1, 1, 2);
        g.model(0, 0, 1, 1, 3);
        g.home(0, 1, 31, 0);
        g.home(0, 1, 0, 0);
        g.home(0, 1, 31, 1);
        g.fitter(15, 9, 0);
        g.stock(0, 9);
        Due.law(g, "pay 30 class 2 from week 0");
        DUE.is("43: till it is changed", g.bill(0), 0);
        for (int w = 0; w < 5; w++) g.week();
        g.change(0);
        DUE.is("43: changed", g.bill(0), 30);
        DUE.is("43: shut", g.bill(1), 0);
        DUE.is("43: no law for its class", g.bill(2), 0);
        Due.law(g, "pay 50 class 2 from week 6");
        DUE.is("43: from a later week on", g.bill(0), 30);
        Due.law(g, "pay 40 class 2 from week 5");
        DUE.is("43: the greatest number", g.bill(0), 40);
        Due.law(g, "pay 99 class 3 from week 1");
        DUE.is("43: of its class", g.bill(0), 40);
        DUE.is("43: of its class", g.bill(2), 99);
        Due.law(g, "bar sector 2 week 1 to 9");
        DUE.is("43: a bar pays nothing", g.bill(0), 40);
        g.later(1, 0);
        DUE.is("43: later, in week 6", g.bill(1), 40);
        Due.law(g, "pay 9999 class 2 from week 6");
        DUE.is("43: later, in week 6", g.bill(1), 9999);
        DUE.is("43: week 5 as before", g.bill(0), 40);
        Due.law(g, "pay 0 class 2 from week 0");
        DUE.is("43: nothing is something, too", g.bill(1), 0);
        Due.law(g, "pay 7 class 9 from week 0");
        DUE.is("43: never counts", g.bill(2), 99);
        DUE.is("43: none", g.bill(3), -1);
        for (int far : Due.FAR) DUE.is("43: none", g.bill(far), -1);
    }
}
