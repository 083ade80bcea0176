import java.math.BigInteger;
import java.util.ArrayList;
import java.util.Arrays;
import java.util.HashSet;
import java.util.List;
import java.util.Set;
import java.util.TreeSet;
import java.util.regex.Matcher;
import java.util.regex.Pattern;

/**
 * The document once more, written down as slowly and plainly as it reads, with another way taken wherever
 * GasTurn takes a short one: rows are tried one by one, chances dealt out, texts matched by patterns.
 */
final class Plain {
    static final int NONE = -1, BAD = -2, STATE = -3, FULL = -4;

    static final class P { int a, b; boolean valve, open = true; }
    static final class W { int knot, make, coal; boolean runs = true; }
    static final class M { int kind, jet, many, hours, cls, number; }
    static final class H {
        int knot, use, days, model, state, fitter = -1, week = -1, day = -1;
        boolean fault;
    }
    static final class F { int classes, hours, knot, free; }
    static final class S { int home, minute, fitter = -1, there = -1; }
    static final class O { int jet, n, week; }
    static final class L { boolean pay; int n, who, from, to; }
    static final class Sec { Set<Integer> knots = new TreeSet<>(); boolean changed; }

    int knots;
    final List<P> pipes = new ArrayList<>();
    final List<W> works = new ArrayList<>();
    int terminal = -1;
    final int[] steps = {60, 80, 100, 150};
    final List<M> models = new ArrayList<>();
    final List<H> homes = new ArrayList<>();
    final List<int[]> surveys = new ArrayList<>();
    final int[] stock = new int[5];
    final List<O> orders = new ArrayList<>();
    final List<Sec> sectors = new ArrayList<>();
    List<Integer> row = new ArrayList<>();
    final List<Integer> plan = new ArrayList<>();
    final List<F> fitters = new ArrayList<>();
    final List<S> smells = new ArrayList<>();
    int limit = 30;
    int week;
    final List<Integer> tape = new ArrayList<>();
    final List<L> laws = new ArrayList<>();
    final List<Integer> trace = new ArrayList<>();
    final Object[] sheets = new Object[3];

    static boolean in(int v, int a, int b) { return a <= v && v <= b; }
    static boolean of(int i, List<?> list) { return in(i, 0, list.size() - 1); }
    static int bit(boolean b) { return b ? 1 : 0; }
    boolean isKnot(int k) { return in(k, 0, knots - 1); }

    // ---- the net

    int knot() { return knots == 12 ? FULL : knots++; }

    int pipe(int a, int b, int valve) {
        if (!isKnot(a) || !isKnot(b)) return NONE;
        if (a == b) return BAD;
        if (!in(valve, 0, 1)) return BAD;
        if (pipes.size() == 20) return FULL;
        P p = new P();
        p.a = a; p.b = b; p.valve = valve == 1;
        pipes.add(p);
        return pipes.size() - 1;
    }

    int valve(int pipe, int open) {
        if (!of(pipe, pipes)) return NONE;
        if (!in(open, 0, 1)) return BAD;
        P p = pipes.get(pipe);
        if (!p.valve) return STATE;
        int was = bit(p.open);
        p.open = open == 1;
        return was;
    }

    int lost(int pipe) {
        if (!of(pipe, pipes)) return NONE;
        P p = pipes.get(pipe);
        if (!p.valve) return STATE;
        int was = bit(p.open);
        p.valve = false;
        p.open = true;
        return was;
    }

    int pipeOf(int pipe, int what) {
        if (!of(pipe, pipes) || !in(what, 0, 3)) return -5;
        P p = pipes.get(pipe);
        return new int[] {p.a, p.b, bit(p.valve), bit(p.open)}[what];
    }

    int works(int knot, int make, int coal) {
        if (!isKnot(knot)) return NONE;
        if (!in(make, 1, 500) || !in(coal, 0, 9999)) return BAD;
        if (works.size() == 5) return FULL;
        W w = new W();
        w.knot = knot; w.make = make; w.coal = coal;
        works.add(w);
        return works.size() - 1;
    }

    int close(int work) {
        if (!of(work, works)) return NONE;
        if (!works.get(work).runs) return STATE;
        works.get(work).runs = false;
        return 1;
    }

    int work(int i, int what) {
        if (!of(i, works) || !in(what, 0, 4)) return -5;
        W w = works.get(i);
        Set<Integer> area = areaOf(w.knot);
        int rest = 0;
        for (W o : works) if (o != w && o.runs && area.contains(o.knot)) rest += o.make;
        int use = 0;
        for (H h : homes) if (h.state == 0 && area.contains(h.knot)) use += h.use;
        return new int[] {w.knot, w.make, w.coal, bit(w.runs), bit(w.runs && rest >= use)}[what];
    }

    int terminal(int knot) {
        if (knot != -1 && !isKnot(knot)) return -5;
        int was = terminal;
        terminal = knot;
        return was;
    }

    /** All knots that can be come to from one, by pipes among these knots. */
    Set<Integer> reach(int knot, Set<Integer> among, boolean onlyOpen) {
        Set<Integer> seen = new TreeSet<>();
        if (!among.contains(knot)) return seen;
        List<Integer> todo = new ArrayList<>(List.of(knot));
        while (!todo.isEmpty()) {
            int k = todo.remove(todo.size() - 1);
            if (!seen.add(k)) continue;
            for (P p : pipes) {
                if (onlyOpen && !p.open) continue;
                if (p.a == k && among.contains(p.b)) todo.add(p.b);
                if (p.b == k && among.contains(p.a)) todo.add(p.a);
            }
        }
        return seen;
    }

    Set<Integer> allKnots() {
        Set<Integer> all = new TreeSet<>();
        for (int k = 0; k < knots; k++) all.add(k);
        return all;
    }

    Set<Integer> areaOf(int knot) { return reach(knot, allKnots(), true); }

    int gas(int knot) {
        if (!isKnot(knot)) return NONE;
        int gas = 0;
        Set<Integer> area = areaOf(knot);
        for (W w : works) if (w.runs && area.contains(w.knot)) gas |= 1;
        if (terminal >= 0 && area.contains(terminal)) gas |= 2;
        return gas;
    }

    int area(int knot) {
        if (!isKnot(knot)) return NONE;
        int bits = 0;
        for (int k : areaOf(knot)) bits |= 1 << k;
        return bits;
    }

    int pressure(int knot) {
        if (!isKnot(knot)) return -5;
        int gas = gas(knot);
        if (gas == 0) return -1;
        if (gas == 3) return -2;
        Set<Integer> area = areaOf(knot);
        int supply = 5000;
        if (gas == 1) {
            supply = 0;
            for (W w : works) if (w.runs && area.contains(w.knot)) supply += w.make;
        }
        int use = 0;
        for (H h : homes) if (h.state != 2 && area.contains(h.knot)) use += h.use;
        if (use == 0) return 4;
        int many = 0;
        for (int s : steps) if (s <= supply * 100 / use) many++;
        return many;
    }

    int step(int i, int v) {
        if (!in(i, 0, 3)) return NONE;
        if (!in(v, 1, 9999)) return BAD;
        int[] then = steps.clone();
        then[i] = v;
        for (int k = 0; k < 3; k++) if (then[k] >= then[k + 1]) return BAD;
        int was = steps[i];
        steps[i] = v;
        return was;
    }

    // ---- models, homes, surveys

    int model(int kind, int jet, int many, int hours, int cls) {
        if (!in(kind, 0, 3) || !in(jet, 0, 4) || !in(many, 1, 9) || !in(hours, 1, 8) || !in(cls, 0, 3)) return BAD;
        if (models.size() == 12) return FULL;
        M m = new M();
        m.kind = kind; m.jet = jet; m.many = many; m.hours = hours; m.cls = cls; m.number = models.size();
        models.add(m);
        return m.number;
    }

    int home(int knot, int use, int days, int model) {
        if (!isKnot(knot) || !of(model, models)) return NONE;
        if (!in(use, 1, 20) || !in(days, 0, 31)) return BAD;
        if (homes.size() == 40) return FULL;
        H h = new H();
        h.knot = knot; h.use = use; h.days = days; h.model = model;
        homes.add(h);
        return homes.size() - 1;
    }

    int survey(int home, int set) {
        if (!of(home, homes)) return NONE;
        if (set == 0) return BAD;
        for (int b = models.size(); b < 32; b++) if ((set >>> b & 1) == 1) return BAD;
        if (surveys.size() == 300) return FULL;
        surveys.add(new int[] {home, set});
        return surveys.size();
    }

    static int sortOf(Object sheet) {
        return sheet instanceof byte[] ? 0 : sheet instanceof short[] ? 1 : 2;
    }

    static int item(Object sheet, int i) {
        if (sheet instanceof byte[] b) return b[i];
        if (sheet instanceof short[] s) return s[i];
        return ((int[]) sheet)[i];
    }

    int lay(int home, int sheet, int sort, int i) {
        if (!of(home, homes)) return NONE;
        if (!in(sheet, 0, 2) || !in(sort, 0, 2)) return BAD;
        Object s = sheets[sheet];
        if (s != null && sortOf(s) != sort) return -13;
        if (s == null) return -11;
        if (!in(i, 0, java.lang.reflect.Array.getLength(s) - 1)) return -12;
        return survey(home, item(s, i));
    }

    int known(int home, int k) {
        if (!of(home, homes) || k < 0) return -5;
        int set = (1 << models.size()) - 1;
        for (int number = 1; number <= surveys.size() && number <= k; number++) {
            if (surveys.get(number - 1)[0] == home) set = surveys.get(number - 1)[1];
        }
        return set;
    }

    int need(int sector, int jet, int k, int most) {
        if (!of(sector, sectors) || !in(jet, 0, 4) || k < 0 || !in(most, 0, 1)) return -5;
        int sum = 0;
        for (int h = 0; h < homes.size(); h++) {
            if (!sectors.get(sector).knots.contains(homes.get(h).knot)) continue;
            TreeSet<Integer> takes = new TreeSet<>();
            for (M m : models) if ((known(h, k) >> m.number & 1) == 1) takes.add(m.jet == jet ? m.many : 0);
            sum += most == 1 ? takes.last() : takes.first();
        }
        return sum;
    }

    int homeOf(int home, int what) {
        if (!of(home, homes) || !in(what, 0, 7)) return -5;
        H h = homes.get(home);
        return new int[] {h.knot, h.use, h.days, h.state, h.fitter, h.week, h.day, bit(h.fault)}[what];
    }

    // ---- jets, sectors

    int stock(int jet, int v) {
        if (!in(jet, 0, 4)) return NONE;
        if (!in(v, -9999, 9999) || !in(stock[jet] + v, 0, 9999)) return BAD;
        return stock[jet] += v;
    }

    int order(int jet, int n, int w) {
        if (!in(jet, 0, 4)) return NONE;
        if (!in(n, 1, 999) || w <= week || w > 200) return BAD;
        if (orders.size() == 30) return FULL;
        O o = new O();
        o.jet = jet; o.n = n; o.week = w;
        orders.add(o);
        return orders.size() - 1;
    }

    int sector(int set) {
        if (set == 0) return BAD;
        Sec s = new Sec();
        for (int b = 0; b < 32; b++) {
            if ((set >>> b & 1) == 0) continue;
            if (!isKnot(b)) return BAD;
            s.knots.add(b);
        }
        for (Sec o : sectors) for (int k : o.knots) if (s.knots.contains(k)) return STATE;
        if (sectors.size() == 7) return FULL;
        sectors.add(s);
        return sectors.size() - 1;
    }

    Set<Integer> changedKnots(Set<Integer> ahead) {
        Set<Integer> d = new TreeSet<>();
        for (int i = 0; i < sectors.size(); i++) {
            if (sectors.get(i).changed || ahead.contains(i)) d.addAll(sectors.get(i).knots);
        }
        return d;
    }

    /** What hinders a sector, when these ahead of it are changed, laws aside. */
    int hinders(int sector, Set<Integer> ahead) {
        Sec s = sectors.get(sector);
        if (s.changed || ahead.contains(sector)) return 1;
        Set<Integer> d = changedKnots(ahead);
        Set<Integer> both = new TreeSet<>(d);
        both.addAll(s.knots);
        for (P p : pipes) if (both.contains(p.a) != both.contains(p.b) && !p.valve) return 2;
        Set<Integer> fed = reach(terminal, both, false);
        if (!fed.containsAll(s.knots)) return 3;
        Set<Integer> rest = allKnots();
        rest.removeAll(both);
        for (int k : rest) {
            Set<Integer> group = reach(k, rest, false);
            int use = 0;
            int make = 0;
            for (H h : homes) if (h.state != 2 && group.contains(h.knot)) use += h.use;
            for (W w : works) if (w.runs && !d.contains(w.knot) && group.contains(w.knot)) make += w.make;
            if (use > make) return 4;
        }
        return 0;
    }

    int why(int sector) {
        if (!of(sector, sectors)) return NONE;
        int h = hinders(sector, Set.of());
        if (h != 0) return h;
        for (L l : laws) if (!l.pay && l.who == sector && l.from <= week && week <= l.to) return 5;
        return 0;
    }

    private int bestPrice;
    private List<Integer> bestRow;

    int best() {
        bestPrice = Integer.MAX_VALUE;
        bestRow = null;
        int open = 0;
        for (Sec s : sectors) if (!s.changed) open++;
        if (open == 0) return STATE;
        tryRows(new ArrayList<>(), 0, open);
        if (bestRow == null) return STATE;
        row = bestRow;
        return bestPrice;
    }

    /** Rows come by their first sectors, the lesser ahead, so of equal prices the first one found stays. */
    private void tryRows(List<Integer> ahead, int price, int open) {
        if (ahead.size() == open) {
            if (price < bestPrice) {
                bestPrice = price;
                bestRow = new ArrayList<>(ahead);
            }
            return;
        }
        for (int s = 0; s < sectors.size(); s++) {
            if (hinders(s, new HashSet<>(ahead)) != 0) continue;
            List<Integer> more = new ArrayList<>(ahead);
            more.add(s);
            Set<Integer> d = changedKnots(new HashSet<>(more));
            int cut = 0;
            for (P p : pipes) if (d.contains(p.a) != d.contains(p.b)) cut++;
            tryRows(more, price + cut, open);
        }
    }

    int bestAt(int i) { return of(i, row) ? row.get(i) : NONE; }

    int plan(int sector) {
        if (!of(sector, sectors)) return NONE;
        if (sectors.get(sector).changed || plan.contains(sector)) return STATE;
        plan.add(sector);
        return plan.size();
    }

    int unplan() {
        int had = plan.size();
        plan.clear();
        return had;
    }

    int shortOf(int jet, int most) {
        if (!in(jet, 0, 4) || !in(most, 0, 1)) return -5;
        for (int i = 0; i < plan.size(); i++) {
            int there = stock[jet];
            for (O o : orders) if (o.jet == jet && o.week > week && o.week <= week + i) there += o.n;
            int need = 0;
            for (int k = 0; k <= i; k++) need += need(plan.get(k), jet, surveys.size(), most);
            if (there < need) return week + i;
        }
        return NONE;
    }

    // ---- weeks

    int fitter(int classes, int hours, int knot) {
        if (!isKnot(knot)) return NONE;
        if (!in(classes, 0, 15) || !in(hours, 1, 10)) return BAD;
        if (fitters.size() == 8) return FULL;
        F f = new F();
        f.classes = classes; f.hours = hours; f.knot = knot;
        fitters.add(f);
        return fitters.size() - 1;
    }

    int change(int sector) {
        if (!of(sector, sectors)) return NONE;
        if (why(sector) != 0 || week == 200) return STATE;
        Sec s = sectors.get(sector);
        s.changed = true;
        plan.remove((Integer) sector);
        for (W w : works) if (s.knots.contains(w.knot)) w.runs = false;
        Set<Integer> d = changedKnots(Set.of());
        for (P p : pipes) {
            if (!p.valve) continue;
            if (d.contains(p.a) && d.contains(p.b)) p.open = true;
            else if (d.contains(p.a) || d.contains(p.b)) p.open = false;
        }
        int many = 0;
        for (int day = 0; day < 5; day++) {
            int[] left = new int[fitters.size()];
            for (int f = 0; f < left.length; f++) left[f] = fitters.get(f).hours;
            for (int f = 0; f < left.length; f++) {
                for (H h : homes) {
                    M m = models.get(h.model);
                    boolean does = s.knots.contains(h.knot) && h.state == 0 && (h.days >> day & 1) == 1
                        && (fitters.get(f).classes >> m.cls & 1) == 1 && m.hours <= left[f] && stock[m.jet] >= m.many;
                    if (!does) continue;
                    left[f] -= m.hours;
                    makeChanged(h, f, day);
                    many++;
                }
            }
        }
        for (H h : homes) if (s.knots.contains(h.knot) && h.state == 0) h.state = 2;
        endWeek();
        return many;
    }

    private void makeChanged(H h, int fitter, int day) {
        M m = models.get(h.model);
        stock[m.jet] -= m.many;
        h.state = 1;
        h.fitter = fitter;
        h.week = week;
        h.day = day;
    }

    private void endWeek() {
        int[] burn = new int[works.size()];
        for (int i = 0; i < works.size(); i++) {
            W w = works.get(i);
            if (!w.runs) continue;
            Set<Integer> area = areaOf(w.knot);
            int use = 0;
            for (H h : homes) if (h.state == 0 && area.contains(h.knot)) use += h.use;
            List<W> sharing = new ArrayList<>();
            for (W o : works) if (o.runs && area.contains(o.knot)) sharing.add(o);
            int part = 0;
            for (int u = 0; u < use; u++) if (sharing.get(u % sharing.size()) == w) part++;
            while (burn[i] * 10 < part) burn[i]++;
        }
        for (int i = 0; i < works.size(); i++) {
            W w = works.get(i);
            if (!w.runs) continue;
            if (w.coal < burn[i]) {
                w.coal = 0;
                w.runs = false;
            } else {
                w.coal -= burn[i];
            }
        }
        week++;
        for (O o : orders) if (o.week == week) stock[o.jet] = Math.min(9999, stock[o.jet] + o.n);
    }

    int week() {
        if (week == 200) return STATE;
        endWeek();
        return week;
    }

    int later(int home, int fitter) {
        if (!of(home, homes) || !of(fitter, fitters)) return NONE;
        H h = homes.get(home);
        M m = models.get(h.model);
        if (h.state != 2 || !changedKnots(Set.of()).contains(h.knot)) return STATE;
        if ((fitters.get(fitter).classes >> m.cls & 1) == 0 || stock[m.jet] < m.many) return STATE;
        makeChanged(h, fitter, 5);
        return 1;
    }

    int danger() {
        int many = 0;
        for (H h : homes) {
            int gas = gas(h.knot);
            if (h.state == 0 && (gas == 2 || gas == 3) || h.state == 1 && (gas == 1 || gas == 3)) many++;
        }
        return many;
    }

    // ---- smells, faults

    int smell(int home, int minute) {
        if (!of(home, homes)) return NONE;
        if (!in(minute, 0, 9999)) return BAD;
        if (!smells.isEmpty() && minute < smells.get(smells.size() - 1).minute) return BAD;
        if (smells.size() == 30) return FULL;
        int[][] far = new int[knots][knots];
        for (int[] r : far) Arrays.fill(r, 1000);
        for (int k = 0; k < knots; k++) far[k][k] = 0;
        for (P p : pipes) far[p.a][p.b] = far[p.b][p.a] = 1;
        for (int k = 0; k < knots; k++)
            for (int a = 0; a < knots; a++)
                for (int b = 0; b < knots; b++) far[a][b] = Math.min(far[a][b], far[a][k] + far[k][b]);
        S s = new S();
        s.home = home;
        s.minute = minute;
        int to = homes.get(home).knot;
        for (int f = fitters.size() - 1; f >= 0; f--) {
            F who = fitters.get(f);
            if (far[who.knot][to] >= 1000) continue;
            int there = Math.max(minute, who.free) + 4 * far[who.knot][to];
            if (s.fitter == -1 || there <= s.there) {
                s.fitter = f;
                s.there = there;
            }
        }
        if (s.fitter >= 0) {
            fitters.get(s.fitter).free = s.there + 15;
            fitters.get(s.fitter).knot = to;
        }
        smells.add(s);
        return smells.size() - 1;
    }

    int smellOf(int i, int what) {
        if (!of(i, smells) || !in(what, 0, 4)) return -5;
        S s = smells.get(i);
        int late = bit(s.fitter == -1 || s.there > s.minute + limit);
        return new int[] {s.home, s.minute, s.fitter, s.there, late}[what];
    }

    int limit(int minutes) {
        if (!in(minutes, 0, 999)) return BAD;
        int was = limit;
        limit = minutes;
        return was;
    }

    private int faultCount() {
        int many = 0;
        for (H h : homes) if (h.fault) many++;
        return many;
    }

    int fault(int home) {
        if (!of(home, homes)) return NONE;
        H h = homes.get(home);
        if (h.state != 1 || h.fault) return STATE;
        h.fault = true;
        return faultCount();
    }

    int beyond(int model, int p) {
        if (!of(model, models)) return NONE;
        if (!in(p, 1, 9999)) return BAD;
        int all = 0;
        int its = 0;
        int b = 0;
        int faults = 0;
        for (H h : homes) {
            if (h.state != 1) continue;
            all++;
            if (h.fault) faults++;
            if (h.model == model) its++;
            if (h.model == model && h.fault) b++;
        }
        // Homes are gone through one by one, its own first: ways[f][i] deals of f faults, i of them on its own.
        BigInteger[][] ways = new BigInteger[faults + 1][faults + 1];
        for (BigInteger[] w : ways) Arrays.fill(w, BigInteger.ZERO);
        ways[0][0] = BigInteger.ONE;
        for (int h = 0; h < all; h++) {
            for (int f = faults; f >= 1; f--) {
                for (int i = faults; i >= 0; i--) {
                    BigInteger with = h >= its ? ways[f - 1][i] : i > 0 ? ways[f - 1][i - 1] : BigInteger.ZERO;
                    ways[f][i] = ways[f][i].add(with);
                }
            }
        }
        BigInteger whole = BigInteger.ZERO;
        BigInteger hit = BigInteger.ZERO;
        for (int i = 0; i <= faults; i++) {
            whole = whole.add(ways[faults][i]);
            if (i >= b) hit = hit.add(ways[faults][i]);
        }
        return bit(hit.multiply(BigInteger.valueOf(10000)).compareTo(whole.multiply(BigInteger.valueOf(p))) < 0);
    }

    // ---- laws

    int feed(int bytes, int n) {
        if (!in(n, 0, 4)) return BAD;
        if (tape.size() + n > 60) return FULL;
        for (int i = 0; i < n; i++) tape.add(bytes >>> 8 * (n - 1 - i) & 0xff);
        return tape.size();
    }

    private static final Pattern BAR = Pattern.compile("bar sector ([0-9]) week ([0-9]{1,3}) to ([0-9]{1,3})");
    private static final Pattern PAY = Pattern.compile("pay ([0-9]{1,4}) class ([0-9]) from week ([0-9]{1,3})");

    private static boolean beginsSo(Pattern form, String text) {
        Matcher m = form.matcher(text);
        return m.matches() || m.hitEnd();
    }

    int law() {
        if (laws.size() == 10) return FULL;
        StringBuilder chars = new StringBuilder();
        for (int b : tape) chars.append((char) b);
        String text = chars.toString();
        tape.clear();
        for (Pattern form : new Pattern[] {BAR, PAY}) {
            Matcher m = form.matcher(text);
            if (!m.matches()) continue;
            L l = new L();
            l.pay = form == PAY;
            l.who = Integer.parseInt(m.group(l.pay ? 2 : 1));
            l.n = l.pay ? Integer.parseInt(m.group(1)) : 0;
            l.from = Integer.parseInt(m.group(l.pay ? 3 : 2));
            l.to = l.pay ? 0 : Integer.parseInt(m.group(3));
            laws.add(l);
            return laws.size() - 1;
        }
        int good = 0;
        for (int n = 1; n <= text.length(); n++) {
            String head = text.substring(0, n);
            if (beginsSo(BAR, head) || beginsSo(PAY, head)) good = n;
        }
        return -10 - good;
    }

    int bill(int home) {
        if (!of(home, homes)) return NONE;
        H h = homes.get(home);
        int pay = 0;
        if (h.state != 1) return 0;
        for (L l : laws) if (l.pay && l.who == models.get(h.model).cls && l.from <= h.week) pay = l.n;
        return pay;
    }

    // ---- acts, sheets: kinds by their numbers here, where GasTurn has classes

    private static final int[] ABOVE = {-1, 0, 1, 0};
    private static final int[][] BODY = {{10, 11, 12}, {0, 20, 0}, {30, 0, 31}, {40, 41, 0}};

    private int run(M m, int act, int x) { return body(m, m.kind, act, x); }

    private int body(M m, int from, int act, int x) {
        int kind = from;
        while (BODY[kind][act] == 0) kind = ABOVE[kind];
        trace.add(BODY[kind][act]);
        int up = ABOVE[kind];
        switch (BODY[kind][act]) {
            case 10: return x + m.many;
            case 11: return run(m, 0, x) * 2;
            case 12: {
                int warm = run(m, 1, x);
                return warm ^ run(m, 0, x + m.number);
            }
            case 20: return body(m, up, 1, x) - m.number;
            case 30: return body(m, up, 0, x) * 3;
            case 31: return body(m, up, 2, x - 1);
            case 40: return body(m, up, 0, x) ^ m.number;
            default: {
                int warm = body(m, up, 1, x);
                return warm + run(m, 0, x);
            }
        }
    }

    int act(int model, int act, int x) {
        trace.clear();
        if (!of(model, models) || !in(act, 0, 2)) return 0;
        return run(models.get(model), act, x);
    }

    int trace(int i) { return of(i, trace) && i < 20 ? trace.get(i) : NONE; }

    int taken(int model, int k) {
        if (!in(k, 0, 3)) return BAD;
        if (!of(model, models)) return -11;
        for (int kind = models.get(model).kind; kind >= 0; kind = ABOVE[kind]) {
            if (kind == k) return models.get(model).kind;
        }
        return -13;
    }

    int count(int what) {
        if (!in(what, 0, 17)) return BAD;
        int shutValves = 0;
        for (P p : pipes) if (p.valve && !p.open) shutValves++;
        int shutHomes = 0;
        for (H h : homes) if (h.state == 2) shutHomes++;
        return new int[] {knots, pipes.size(), works.size(), models.size(), homes.size(), surveys.size(),
            orders.size(), sectors.size(), plan.size(), fitters.size(), smells.size(), faultCount(), laws.size(),
            week, tape.size(), shutValves, shutHomes, trace.size()}[what];
    }

    int sheet(int sheet, int sort, int n) {
        if (!in(sheet, 0, 2) || !in(sort, -1, 2)) return BAD;
        if (sort >= 0 && n > 40) return BAD;
        if (sort >= 0 && n < 0) return -14;
        sheets[sheet] = sort == -1 ? null : sort == 0 ? new byte[n] : sort == 1 ? new short[n] : (Object) new int[n];
        return 1;
    }

    int cell(int sheet, int i, int v) {
        if (!in(sheet, 0, 2)) return BAD;
        Object s = sheets[sheet];
        if (s == null) return -11;
        if (!in(i, 0, java.lang.reflect.Array.getLength(s) - 1)) return -12;
        if (s instanceof byte[] b) b[i] = (byte) v;
        if (s instanceof short[] h) h[i] = (short) v;
        if (s instanceof int[] w) w[i] = v;
        return 1;
    }

    int copy(int sheet, int i, int other, int j, int n) {
        if (!in(sheet, 0, 2) || !in(other, 0, 2)) return BAD;
        Object s = sheets[sheet];
        Object o = sheets[other];
        if (s == null || o == null) return -11;
        if (sortOf(s) != sortOf(o)) return -13;
        if (n < 0 || i < 0 || j < 0) return -12;
        if ((long) i + n > java.lang.reflect.Array.getLength(s)) return -12;
        if ((long) j + n > java.lang.reflect.Array.getLength(o)) return -12;
        int[] before = new int[n];
        for (int k = 0; k < n; k++) before[k] = item(s, i + k);
        for (int k = 0; k < n; k++) cell(other, j + k, before[k]);
        return n;
    }
}
