import java.util.Arrays;

/**
 * The turn of a nation from old gas to new: its net, homes, jets, sectors, weeks, smells, faults and laws.
 * Every call answers with a number; a refused call changes nothing.
 */
public final class GasTurn {
    public static final int NONE = -1, BAD = -2, STATE = -3, FULL = -4;

    private static final int NO_SUCH = -5;
    private static final int LAW_FAULT = -10;
    private static final int MISSING = -11;
    private static final int NO_ITEM = -12;
    private static final int OTHER_SORT = -13;
    private static final int BELOW_NOTHING = -14;

    private static final int MOST_KNOTS = 12;
    private static final int MOST_PIPES = 20;
    private static final int MOST_WORKS = 5;
    private static final int MOST_MODELS = 12;
    private static final int MOST_MANY = 9;
    private static final int MOST_HOMES = 40;
    private static final int MOST_SURVEYS = 300;
    private static final int MOST_ORDERS = 30;
    private static final int MOST_SECTORS = 7;
    private static final int MOST_FITTERS = 8;
    private static final int MOST_SMELLS = 30;
    private static final int MOST_LAWS = 10;
    private static final int MOST_BYTES = 60;
    private static final int MOST_TRACE = 20;
    private static final int SHEETS = 3;
    private static final int MOST_ITEMS = 40;
    private static final int JETS = 5;
    private static final int STEPS = 4;
    private static final int MOST_STOCK = 9999;
    private static final int LAST_WEEK = 200;
    private static final int WORK_DAYS = 5;
    private static final int LATER_DAY = 5;

    private static final int OLD = 0, CHANGED = 1, SHUT = 2;
    private static final int NO_GAS = 0, OLD_GAS = 1, NEW_GAS = 2, BOTH_GASES = 3;
    private static final int PRESSURE_WITHOUT_GAS = -1, PRESSURE_OF_BOTH = -2;
    private static final int SUPPLY_OF_NEW = 5000;
    private static final int RING = 0, OVEN = 1, GRILL = 2, FIRE = 3;
    private static final int BURNS = 0, WARMS = 1, FITS = 2;
    private static final int MINUTES_A_PIPE = 4;
    private static final int MINUTES_AT_A_SMELL = 15;
    private static final int BYTES = 0, SHORTS = 1, INTS = 2;

    private final Net net = new Net();
    private final int[] steps = {60, 80, 100, 150};
    private final Trace trace = new Trace();
    private final Ring[] models = new Ring[MOST_MODELS];
    private int modelCount;
    private final Home[] homes = new Home[MOST_HOMES];
    private int homeCount;
    private final int[] surveySet = new int[MOST_SURVEYS + 1];
    private final int[] surveyBefore = new int[MOST_SURVEYS + 1];
    private int surveys;
    private final int[] stocks = new int[JETS];
    private final int[] orderJet = new int[MOST_ORDERS];
    private final int[] orderMany = new int[MOST_ORDERS];
    private final int[] orderWeek = new int[MOST_ORDERS];
    private int orders;
    private final Sectors sectors = new Sectors(net);
    private int weekNow;
    private final Duty duty = new Duty();
    private final Laws laws = new Laws();
    private final Sheets sheets = new Sheets();

    public GasTurn() {
    }

    // ---- the net

    public int knot() {
        if (net.knots >= MOST_KNOTS) return FULL;
        return net.knots++;
    }

    public int pipe(int a, int b, int valve) {
        if (!net.hasKnot(a) || !net.hasKnot(b)) return NONE;
        if (a == b || !isFlag(valve)) return BAD;
        if (net.pipes >= MOST_PIPES) return FULL;
        return net.addPipe(a, b, valve == 1);
    }

    public int valve(int pipe, int open) {
        if (!net.hasPipe(pipe)) return NONE;
        if (!isFlag(open)) return BAD;
        if (!net.valved[pipe]) return STATE;
        int was = flag(net.open[pipe]);
        net.open[pipe] = open == 1;
        net.joinOpen();
        return was;
    }

    public int lost(int pipe) {
        if (!net.hasPipe(pipe)) return NONE;
        if (!net.valved[pipe]) return STATE;
        int was = flag(net.open[pipe]);
        net.valved[pipe] = false;
        net.open[pipe] = true;
        net.joinOpen();
        return was;
    }

    public int pipeOf(int pipe, int what) {
        if (!net.hasPipe(pipe)) return NO_SUCH;
        switch (what) {
            case 0: return net.from[pipe];
            case 1: return net.to[pipe];
            case 2: return flag(net.valved[pipe]);
            case 3: return flag(net.open[pipe]);
            default: return NO_SUCH;
        }
    }

    public int works(int knot, int make, int coal) {
        if (!net.hasKnot(knot)) return NONE;
        if (!isWithin(make, 1, 500) || !isWithin(coal, 0, 9999)) return BAD;
        if (net.works >= MOST_WORKS) return FULL;
        return net.addWork(knot, make, coal);
    }

    public int close(int work) {
        if (!net.hasWork(work)) return NONE;
        if (!net.runs[work]) return STATE;
        net.runs[work] = false;
        return 1;
    }

    public int work(int w, int what) {
        if (!net.hasWork(w)) return NO_SUCH;
        switch (what) {
            case 0: return net.workKnot[w];
            case 1: return net.make[w];
            case 2: return net.coal[w];
            case 3: return flag(net.runs[w]);
            case 4: return flag(net.runs[w] && isSpared(w));
            default: return NO_SUCH;
        }
    }

    public int terminal(int knot) {
        if (knot != NONE && !net.hasKnot(knot)) return NO_SUCH;
        int was = net.terminalKnot;
        net.terminalKnot = knot;
        return was;
    }

    public int gas(int knot) {
        if (!net.hasKnot(knot)) return NONE;
        return gasAt(knot, net.oldReach(), net.newReach());
    }

    public int area(int knot) {
        if (!net.hasKnot(knot)) return NONE;
        return net.areaOf(knot);
    }

    public int pressure(int knot) {
        if (!net.hasKnot(knot)) return NO_SUCH;
        int gas = gasAt(knot, net.oldReach(), net.newReach());
        if (gas == NO_GAS) return PRESSURE_WITHOUT_GAS;
        if (gas == BOTH_GASES) return PRESSURE_OF_BOTH;
        int area = net.areaOf(knot);
        int supply = gas == OLD_GAS ? net.makeIn(area) : SUPPLY_OF_NEW;
        int use = useIn(area, false);
        if (use <= 0) return STEPS;
        return stepsUpTo(supply * 100 / use);
    }

    public int step(int i, int v) {
        if (!isWithin(i, 0, STEPS - 1)) return NONE;
        if (!isWithin(v, 1, 9999)) return BAD;
        if (i > 0 && v <= steps[i - 1]) return BAD;
        if (i < STEPS - 1 && v >= steps[i + 1]) return BAD;
        int was = steps[i];
        steps[i] = v;
        return was;
    }

    // ---- models, homes, surveys

    public int model(int kind, int jet, int many, int hours, int cls) {
        if (!isWithin(kind, RING, FIRE) || !isJet(jet) || !isWithin(many, 1, MOST_MANY)) return BAD;
        if (!isWithin(hours, 1, 8) || !isWithin(cls, 0, 3)) return BAD;
        if (modelCount >= MOST_MODELS) return FULL;
        models[modelCount] = newModel(kind, jet, many, hours, cls);
        return modelCount++;
    }

    public int home(int knot, int use, int days, int model) {
        Ring made = modelAt(model);
        if (!net.hasKnot(knot) || made == null) return NONE;
        if (!isWithin(use, 1, 20) || !isWithin(days, 0, 31)) return BAD;
        if (homeCount >= MOST_HOMES) return FULL;
        homes[homeCount] = new Home(knot, use, days, made);
        return homeCount++;
    }

    public int survey(int home, int set) {
        Home told = homeAt(home);
        if (told == null) return NONE;
        return addSurvey(told, set);
    }

    public int lay(int home, int sheet, int sort, int i) {
        Home told = homeAt(home);
        if (told == null) return NONE;
        if (!sheets.has(sheet) || !isWithin(sort, BYTES, INTS)) return BAD;
        if (sheets.isMissing(sheet)) return MISSING;
        if (sheets.sorts[sheet] != sort) return OTHER_SORT;
        if (!sheets.hasItem(sheet, i)) return NO_ITEM;
        return addSurvey(told, sheets.items[sheet][i]);
    }

    public int known(int home, int k) {
        Home told = homeAt(home);
        if (told == null || k < 0) return NO_SUCH;
        return knownSet(told, k);
    }

    public int need(int sector, int jet, int k, int most) {
        if (!sectors.has(sector) || !isJet(jet) || k < 0 || !isFlag(most)) return NO_SUCH;
        return needOf(sectors.sets[sector], jet, k, most == 1);
    }

    public int homeOf(int home, int what) {
        Home h = homeAt(home);
        if (h == null) return NO_SUCH;
        switch (what) {
            case 0: return h.knot;
            case 1: return h.use;
            case 2: return h.days;
            case 3: return h.state;
            case 4: return h.fitter;
            case 5: return h.week;
            case 6: return h.day;
            case 7: return flag(h.faulty);
            default: return NO_SUCH;
        }
    }

    // ---- jets, sectors

    public int stock(int jet, int v) {
        if (!isJet(jet)) return NONE;
        if (!isWithin(v, -MOST_STOCK, MOST_STOCK)) return BAD;
        if (!isWithin(stocks[jet] + v, 0, MOST_STOCK)) return BAD;
        stocks[jet] += v;
        return stocks[jet];
    }

    public int order(int jet, int n, int week) {
        if (!isJet(jet)) return NONE;
        if (!isWithin(n, 1, 999) || !isWithin(week, weekNow + 1, LAST_WEEK)) return BAD;
        if (orders >= MOST_ORDERS) return FULL;
        orderJet[orders] = jet;
        orderMany[orders] = n;
        orderWeek[orders] = week;
        return orders++;
    }

    public int sector(int set) {
        if (set == 0 || (set & ~net.allKnots()) != 0) return BAD;
        if ((set & sectors.knotsOf(sectors.all())) != 0) return STATE;
        if (sectors.count >= MOST_SECTORS) return FULL;
        sectors.sets[sectors.count] = set;
        return sectors.count++;
    }

    public int why(int sector) {
        if (!sectors.has(sector)) return NONE;
        return whatHinders(sector);
    }

    public int best() {
        countLack();
        return sectors.findBestRow();
    }

    public int bestAt(int i) {
        if (!isWithin(i, 0, sectors.rowLength - 1)) return NONE;
        return sectors.row[i];
    }

    public int plan(int sector) {
        if (!sectors.has(sector)) return NONE;
        if (sectors.isChanged(sector) || sectors.isPlanned(sector)) return STATE;
        return sectors.addToPlan(sector);
    }

    public int unplan() {
        int had = sectors.planned;
        sectors.planned = 0;
        return had;
    }

    public int shortOf(int jet, int most) {
        if (!isJet(jet) || !isFlag(most)) return NO_SUCH;
        int needed = 0;
        for (int i = 0; i < sectors.planned; i++) {
            needed += needOf(sectors.sets[sectors.plan[i]], jet, surveys, most == 1);
            if (stocks[jet] + orderedTill(jet, weekNow + i) < needed) return weekNow + i;
        }
        return NONE;
    }

    // ---- weeks

    public int fitter(int classes, int hours, int knot) {
        if (!net.hasKnot(knot)) return NONE;
        if (!isWithin(classes, 0, 15) || !isWithin(hours, 1, 10)) return BAD;
        if (duty.fitters >= MOST_FITTERS) return FULL;
        return duty.addFitter(classes, hours, knot);
    }

    public int change(int sector) {
        if (!sectors.has(sector)) return NONE;
        if (weekNow >= LAST_WEEK || whatHinders(sector) != 0) return STATE;
        int set = sectors.sets[sector];
        sectors.setChanged(sector);
        net.closeWorksAt(set);
        net.partFromRest(sectors.changedKnots());
        int done = fitHomes(set);
        shutOldHomes(set);
        endWeek();
        return done;
    }

    public int week() {
        if (weekNow >= LAST_WEEK) return STATE;
        endWeek();
        return weekNow;
    }

    public int later(int home, int fitter) {
        Home h = homeAt(home);
        if (h == null || !duty.hasFitter(fitter)) return NONE;
        if (h.state != SHUT || !hasBit(sectors.changedKnots(), h.knot)) return STATE;
        if (!duty.isTrained(fitter, h.model.cls) || !hasJetsFor(h.model)) return STATE;
        fit(h, fitter, LATER_DAY);
        return 1;
    }

    public int danger() {
        int old = net.oldReach();
        int fresh = net.newReach();
        int many = 0;
        for (int i = 0; i < homeCount; i++) {
            int gas = gasAt(homes[i].knot, old, fresh);
            boolean wrongForOld = homes[i].state == OLD && (gas & NEW_GAS) != 0;
            boolean wrongForChanged = homes[i].state == CHANGED && (gas & OLD_GAS) != 0;
            if (wrongForOld || wrongForChanged) many++;
        }
        return many;
    }

    // ---- smells, faults

    public int smell(int home, int minute) {
        Home h = homeAt(home);
        if (h == null) return NONE;
        if (!isWithin(minute, duty.latestMinute(), 9999)) return BAD;
        if (duty.smells >= MOST_SMELLS) return FULL;
        return duty.addSmell(net, home, h.knot, minute);
    }

    public int smellOf(int i, int what) {
        if (!duty.hasSmell(i)) return NO_SUCH;
        switch (what) {
            case 0: return duty.smellHome[i];
            case 1: return duty.smellMinute[i];
            case 2: return duty.smellFitter[i];
            case 3: return duty.smellThere[i];
            case 4: return flag(duty.isLate(i));
            default: return NO_SUCH;
        }
    }

    public int limit(int minutes) {
        if (!isWithin(minutes, 0, 999)) return BAD;
        int was = duty.minutesAllowed;
        duty.minutesAllowed = minutes;
        return was;
    }

    public int fault(int home) {
        Home h = homeAt(home);
        if (h == null) return NONE;
        if (h.state != CHANGED || h.faulty) return STATE;
        h.faulty = true;
        return faults();
    }

    public int beyond(int model, int p) {
        if (modelAt(model) == null) return NONE;
        if (!isWithin(p, 1, 9999)) return BAD;
        int changed = 0;
        int faulty = 0;
        int changedOfIt = 0;
        int faultyOfIt = 0;
        for (int i = 0; i < homeCount; i++) {
            if (homes[i].state != CHANGED) continue;
            boolean ofIt = homes[i].model.number == model;
            changed++;
            faulty += flag(homes[i].faulty);
            changedOfIt += flag(ofIt);
            faultyOfIt += flag(ofIt && homes[i].faulty);
        }
        long deals = 0;
        for (int i = faultyOfIt; i <= changedOfIt && i <= faulty; i++) {
            deals += choose(changedOfIt, i) * choose(changed - changedOfIt, faulty - i);
        }
        return flag(deals * 10000 < p * choose(changed, faulty));
    }

    // ---- laws

    public int feed(int bytes, int n) {
        if (!isWithin(n, 0, 4)) return BAD;
        if (laws.fed + n > MOST_BYTES) return FULL;
        return laws.addBytes(bytes, n);
    }

    public int law() {
        if (laws.count >= MOST_LAWS) return FULL;
        return laws.readTape();
    }

    public int bill(int home) {
        Home h = homeAt(home);
        if (h == null) return NONE;
        if (h.state != CHANGED) return 0;
        return laws.payFor(h.model.cls, h.week);
    }

    // ---- acts, sheets

    public int act(int model, int act, int x) {
        trace.ran = 0;
        Ring acting = modelAt(model);
        if (acting == null) return 0;
        switch (act) {
            case BURNS: return acting.burns(x);
            case WARMS: return acting.warms(x);
            case FITS: return acting.fits(x);
            default: return 0;
        }
    }

    public int trace(int i) {
        if (!isWithin(i, 0, Math.min(trace.ran, MOST_TRACE) - 1)) return NONE;
        return trace.bodies[i];
    }

    public int taken(int model, int k) {
        if (!isWithin(k, RING, FIRE)) return BAD;
        Ring made = modelAt(model);
        if (made == null) return MISSING;
        if (!isOfKind(made, k)) return OTHER_SORT;
        return made.kindNumber();
    }

    public int count(int what) {
        switch (what) {
            case 0: return net.knots;
            case 1: return net.pipes;
            case 2: return net.works;
            case 3: return modelCount;
            case 4: return homeCount;
            case 5: return surveys;
            case 6: return orders;
            case 7: return sectors.count;
            case 8: return sectors.planned;
            case 9: return duty.fitters;
            case 10: return duty.smells;
            case 11: return faults();
            case 12: return laws.count;
            case 13: return weekNow;
            case 14: return laws.fed;
            case 15: return net.shutValves();
            case 16: return shutHomes();
            case 17: return trace.ran;
            default: return BAD;
        }
    }

    public int sheet(int sheet, int sort, int n) {
        if (!sheets.has(sheet) || !isWithin(sort, Sheets.NO_SORT, INTS)) return BAD;
        if (sort == Sheets.NO_SORT) {
            sheets.sorts[sheet] = sort;
            return 1;
        }
        if (n > MOST_ITEMS) return BAD;
        if (n < 0) return BELOW_NOTHING;
        sheets.sorts[sheet] = sort;
        sheets.lengths[sheet] = n;
        Arrays.fill(sheets.items[sheet], 0);
        return 1;
    }

    public int cell(int sheet, int i, int v) {
        if (!sheets.has(sheet)) return BAD;
        if (sheets.isMissing(sheet)) return MISSING;
        if (!sheets.hasItem(sheet, i)) return NO_ITEM;
        sheets.items[sheet][i] = sheets.cutToSort(sheet, v);
        return 1;
    }

    public int copy(int sheet, int i, int other, int j, int n) {
        if (!sheets.has(sheet) || !sheets.has(other)) return BAD;
        if (sheets.isMissing(sheet) || sheets.isMissing(other)) return MISSING;
        if (sheets.sorts[sheet] != sheets.sorts[other]) return OTHER_SORT;
        if (!sheets.hasRun(sheet, i, n) || !sheets.hasRun(other, j, n)) return NO_ITEM;
        System.arraycopy(sheets.items[sheet], i, sheets.items[other], j, n);
        return n;
    }

    // ---- what the calls share

    private static boolean isWithin(int v, int least, int most) {
        return v >= least && v <= most;
    }

    private static boolean isFlag(int v) {
        return v == 0 || v == 1;
    }

    private static boolean isJet(int jet) {
        return isWithin(jet, 0, JETS - 1);
    }

    private static int flag(boolean is) {
        return is ? 1 : 0;
    }

    private static boolean hasBit(int set, int bit) {
        return (set >> bit & 1) != 0;
    }

    /** Of a set that is not empty. */
    private static int lowestIn(int set) {
        return Integer.bitCount((set & -set) - 1);
    }

    private static long choose(int n, int k) {
        if (k < 0 || k > n) return 0;
        long ways = 1;
        for (int i = 1; i <= k; i++) {
            ways = ways * (n - k + i) / i;
        }
        return ways;
    }

    private static int gasAt(int knot, int old, int fresh) {
        return (hasBit(old, knot) ? OLD_GAS : NO_GAS) | (hasBit(fresh, knot) ? NEW_GAS : NO_GAS);
    }

    private int stepsUpTo(int v) {
        int many = 0;
        for (int i = 0; i < STEPS; i++) {
            if (steps[i] <= v) many++;
        }
        return many;
    }

    private boolean isSpared(int work) {
        int area = net.areaOf(net.workKnot[work]);
        return net.makeIn(area) - net.make[work] >= useIn(area, true);
    }

    private Home homeAt(int home) {
        return isWithin(home, 0, homeCount - 1) ? homes[home] : null;
    }

    private Ring modelAt(int model) {
        return isWithin(model, 0, modelCount - 1) ? models[model] : null;
    }

    private Ring newModel(int kind, int jet, int many, int hours, int cls) {
        switch (kind) {
            case OVEN: return new Oven(trace, modelCount, jet, many, hours, cls);
            case GRILL: return new Grill(trace, modelCount, jet, many, hours, cls);
            case FIRE: return new Fire(trace, modelCount, jet, many, hours, cls);
            default: return new Ring(trace, modelCount, jet, many, hours, cls);
        }
    }

    private static boolean isOfKind(Ring model, int kind) {
        switch (kind) {
            case OVEN: return model instanceof Oven;
            case GRILL: return model instanceof Grill;
            case FIRE: return model instanceof Fire;
            default: return true;
        }
    }

    private int addSurvey(Home told, int set) {
        if (set == 0 || (set & ~allModels()) != 0) return BAD;
        if (surveys >= MOST_SURVEYS) return FULL;
        surveys++;
        surveySet[surveys] = set;
        surveyBefore[surveys] = told.survey;
        told.survey = surveys;
        return surveys;
    }

    private int allModels() {
        return (1 << modelCount) - 1;
    }

    private int knownSet(Home told, int k) {
        int number = told.survey;
        // Each survey leads to the home's one before, and 0 is none, so this ends there at the latest.
        for (int i = 0; i < MOST_SURVEYS && number > k; i++) {
            number = surveyBefore[number];
        }
        return number == 0 ? allModels() : surveySet[number];
    }

    private int needOf(int set, int jet, int k, boolean most) {
        int sum = 0;
        for (int i = 0; i < homeCount; i++) {
            if (hasBit(set, homes[i].knot)) sum += takenBy(knownSet(homes[i], k), jet, most);
        }
        return sum;
    }

    private int takenBy(int set, int jet, boolean most) {
        int least = MOST_MANY;
        int greatest = 0;
        for (int i = 0; i < modelCount; i++) {
            if (!hasBit(set, i)) continue;
            int takes = models[i].takes(jet);
            least = Math.min(least, takes);
            greatest = Math.max(greatest, takes);
        }
        return most ? greatest : least;
    }

    private int orderedTill(int jet, int week) {
        int many = 0;
        for (int i = 0; i < orders; i++) {
            // What came in an earlier week is in the stock already.
            boolean toCome = orderWeek[i] > weekNow && orderWeek[i] <= week;
            if (toCome && orderJet[i] == jet) many += orderMany[i];
        }
        return many;
    }

    private int useIn(int set, boolean onlyOld) {
        int use = 0;
        for (int i = 0; i < homeCount; i++) {
            boolean burns = onlyOld ? homes[i].state == OLD : homes[i].state != SHUT;
            if (burns && hasBit(set, homes[i].knot)) use += homes[i].use;
        }
        return use;
    }

    private void countLack() {
        int[] lack = sectors.lack;
        Arrays.fill(lack, 0);
        for (int i = 0; i < homeCount; i++) {
            if (homes[i].state != SHUT) lack[homes[i].knot] += homes[i].use;
        }
        for (int w = 0; w < net.works; w++) {
            if (net.runs[w]) lack[net.workKnot[w]] -= net.make[w];
        }
    }

    private int whatHinders(int sector) {
        countLack();
        int hindered = sectors.hindrance(sector);
        if (hindered != 0) return hindered;
        return laws.bars(sector, weekNow) ? Sectors.BARRED : 0;
    }

    private int fitHomes(int set) {
        int done = 0;
        for (int day = 0; day < WORK_DAYS; day++) {
            for (int f = 0; f < duty.fitters; f++) {
                done += fitOnDay(set, day, f);
            }
        }
        return done;
    }

    private int fitOnDay(int set, int day, int fitter) {
        int left = duty.hours[fitter];
        int done = 0;
        for (int i = 0; i < homeCount; i++) {
            Home h = homes[i];
            if (h.state != OLD || !hasBit(set, h.knot) || !hasBit(h.days, day)) continue;
            if (!duty.isTrained(fitter, h.model.cls)) continue;
            if (h.model.hours > left || !hasJetsFor(h.model)) continue;
            left -= h.model.hours;
            fit(h, fitter, day);
            done++;
        }
        return done;
    }

    private boolean hasJetsFor(Ring model) {
        return stocks[model.jet] >= model.many;
    }

    private void fit(Home h, int fitter, int day) {
        stocks[h.model.jet] -= h.model.many;
        h.state = CHANGED;
        h.fitter = fitter;
        h.week = weekNow;
        h.day = day;
    }

    private void shutOldHomes(int set) {
        for (int i = 0; i < homeCount; i++) {
            if (homes[i].state == OLD && hasBit(set, homes[i].knot)) homes[i].state = SHUT;
        }
    }

    private void endWeek() {
        int burnt = 0;
        for (int w = 0; w < net.works; w++) {
            if (!net.runs[w] || hasBit(burnt, net.workKnot[w])) continue;
            int group = net.areaOf(net.workKnot[w]);
            burnt |= group;
            net.burnCoal(group, useIn(group, true));
        }
        weekNow++;
        for (int i = 0; i < orders; i++) {
            if (orderWeek[i] != weekNow) continue;
            int jet = orderJet[i];
            stocks[jet] = Math.min(MOST_STOCK, stocks[jet] + orderMany[i]);
        }
    }

    private int faults() {
        int many = 0;
        for (int i = 0; i < homeCount; i++) {
            if (homes[i].faulty) many++;
        }
        return many;
    }

    private int shutHomes() {
        int many = 0;
        for (int i = 0; i < homeCount; i++) {
            if (homes[i].state == SHUT) many++;
        }
        return many;
    }

    /** Knots, pipes, works and the terminal; sets of knots are bits. */
    private static final class Net {
        int knots;
        int pipes;
        final int[] from = new int[MOST_PIPES];
        final int[] to = new int[MOST_PIPES];
        final boolean[] valved = new boolean[MOST_PIPES];
        final boolean[] open = new boolean[MOST_PIPES];
        /** Of each knot those at the other ends of its pipes: of all, and of the open ones. */
        final int[] near = new int[MOST_KNOTS];
        final int[] joined = new int[MOST_KNOTS];
        int terminalKnot = NONE;
        int works;
        final int[] workKnot = new int[MOST_WORKS];
        final int[] make = new int[MOST_WORKS];
        final int[] coal = new int[MOST_WORKS];
        final boolean[] runs = new boolean[MOST_WORKS];

        boolean hasKnot(int knot) {
            return isWithin(knot, 0, knots - 1);
        }

        boolean hasPipe(int pipe) {
            return isWithin(pipe, 0, pipes - 1);
        }

        boolean hasWork(int work) {
            return isWithin(work, 0, works - 1);
        }

        int allKnots() {
            return (1 << knots) - 1;
        }

        int addPipe(int a, int b, boolean withValve) {
            from[pipes] = a;
            to[pipes] = b;
            valved[pipes] = withValve;
            open[pipes] = true;
            near[a] |= 1 << b;
            near[b] |= 1 << a;
            joined[a] |= 1 << b;
            joined[b] |= 1 << a;
            return pipes++;
        }

        void joinOpen() {
            Arrays.fill(joined, 0);
            for (int p = 0; p < pipes; p++) {
                if (!open[p]) continue;
                joined[from[p]] |= 1 << to[p];
                joined[to[p]] |= 1 << from[p];
            }
        }

        int addWork(int knot, int makes, int tons) {
            workKnot[works] = knot;
            make[works] = makes;
            coal[works] = tons;
            runs[works] = true;
            return works++;
        }

        int spread(int start, int inside, int[] links) {
            int seen = start & inside;
            int toDo = seen;
            // A knot is looked at once, so there are no more rounds than knots.
            for (int round = 0; round < MOST_KNOTS && toDo != 0; round++) {
                int found = links[lowestIn(toDo)] & inside & ~seen;
                toDo = toDo & (toDo - 1) | found;
                seen |= found;
            }
            return seen;
        }

        int areaOf(int knot) {
            return spread(1 << knot, allKnots(), joined);
        }

        int oldReach() {
            int start = 0;
            for (int w = 0; w < works; w++) {
                if (runs[w]) start |= 1 << workKnot[w];
            }
            return spread(start, allKnots(), joined);
        }

        int newReach() {
            return spread(terminalBit(), allKnots(), joined);
        }

        int fedWithin(int inside) {
            return spread(terminalBit(), inside, near);
        }

        private int terminalBit() {
            return terminalKnot == NONE ? 0 : 1 << terminalKnot;
        }

        int makeIn(int set) {
            int sum = 0;
            for (int w = 0; w < works; w++) {
                if (runs[w] && hasBit(set, workKnot[w])) sum += make[w];
            }
            return sum;
        }

        void closeWorksAt(int set) {
            for (int w = 0; w < works; w++) {
                if (hasBit(set, workKnot[w])) runs[w] = false;
            }
        }

        void burnCoal(int group, int use) {
            int sharing = 0;
            for (int w = 0; w < works; w++) {
                if (runs[w] && hasBit(group, workKnot[w])) sharing++;
            }
            if (sharing == 0) return;
            int nth = 0;
            for (int w = 0; w < works; w++) {
                if (!runs[w] || !hasBit(group, workKnot[w])) continue;
                int part = use / sharing + (nth < use % sharing ? 1 : 0);
                nth++;
                burnPart(w, (part + 9) / 10);
            }
        }

        private void burnPart(int work, int tons) {
            if (coal[work] >= tons) {
                coal[work] -= tons;
            } else {
                coal[work] = 0;
                runs[work] = false;
            }
        }

        private boolean crosses(int pipe, int inside) {
            return hasBit(inside, from[pipe]) != hasBit(inside, to[pipe]);
        }

        boolean canBePartedFromRest(int inside) {
            for (int p = 0; p < pipes; p++) {
                if (crosses(p, inside) && !valved[p]) return false;
            }
            return true;
        }

        int pipesToRest(int inside) {
            int many = 0;
            for (int p = 0; p < pipes; p++) {
                if (crosses(p, inside)) many++;
            }
            return many;
        }

        void partFromRest(int inside) {
            for (int p = 0; p < pipes; p++) {
                if (!valved[p]) continue;
                if (crosses(p, inside)) {
                    open[p] = false;
                } else if (hasBit(inside, from[p])) {
                    open[p] = true;
                }
            }
            joinOpen();
        }

        int shutValves() {
            int many = 0;
            for (int p = 0; p < pipes; p++) {
                if (valved[p] && !open[p]) many++;
            }
            return many;
        }

        int fewestPipes(int start, int end) {
            int seen = 1 << start;
            for (int gone = 0; gone < MOST_KNOTS; gone++) {
                if (hasBit(seen, end)) return gone;
                int wider = seen;
                for (int k = 0; k < knots; k++) {
                    if (hasBit(seen, k)) wider |= near[k];
                }
                seen = wider;
            }
            return NONE;
        }
    }

    /** The bodies of acts that ran, by their numbers. */
    private static final class Trace {
        final int[] bodies = new int[MOST_TRACE];
        int ran;

        void begin(int body) {
            if (ran < MOST_TRACE) bodies[ran] = body;
            ran++;
        }
    }

    /** A model of the kind that all others are under. */
    private static class Ring {
        final Trace trace;
        final int number;
        final int jet;
        final int many;
        final int hours;
        final int cls;

        Ring(Trace trace, int number, int jet, int many, int hours, int cls) {
            this.trace = trace;
            this.number = number;
            this.jet = jet;
            this.many = many;
            this.hours = hours;
            this.cls = cls;
        }

        int kindNumber() {
            return RING;
        }

        final int takes(int kindOfJet) {
            return kindOfJet == jet ? many : 0;
        }

        int burns(int x) {
            trace.begin(10);
            return x + many;
        }

        int warms(int x) {
            trace.begin(11);
            return burns(x) * 2;
        }

        int fits(int x) {
            trace.begin(12);
            return warms(x) ^ burns(x + number);
        }
    }

    private static class Oven extends Ring {
        Oven(Trace trace, int number, int jet, int many, int hours, int cls) {
            super(trace, number, jet, many, hours, cls);
        }
        int kindNumber() {
            return OVEN;
        }
        int warms(int x) {
            trace.begin(20);
            return super.warms(x) - number;
        }
    }

    private static final class Grill extends Oven {
        Grill(Trace trace, int number, int jet, int many, int hours, int cls) {
            super(trace, number, jet, many, hours, cls);
        }
        int kindNumber() {
            return GRILL;
        }
        int burns(int x) {
            trace.begin(30);
            return super.burns(x) * 3;
        }
        int fits(int x) {
            trace.begin(31);
            return super.fits(x - 1);
        }
    }

    private static final class Fire extends Ring {
        Fire(Trace trace, int number, int jet, int many, int hours, int cls) {
            super(trace, number, jet, many, hours, cls);
        }
        int kindNumber() {
            return FIRE;
        }
        int burns(int x) {
            trace.begin(40);
            return super.burns(x) ^ number;
        }
        int warms(int x) {
            trace.begin(41);
            return super.warms(x) + burns(x);
        }
    }

    private static final class Home {
        final int knot;
        final int use;
        final int days;
        final Ring model;
        int state = OLD;
        int fitter = NONE;
        int week = NONE;
        int day = NONE;
        boolean faulty;
        /** The number of the latest survey of it; 0 without one. */
        int survey;

        Home(int knot, int use, int days, Ring model) {
            this.knot = knot;
            this.use = use;
            this.days = days;
            this.model = model;
        }
    }

    /** Sectors, the plan and the best row; sets of sectors are bits, too. */
    private static final class Sectors {
        static final int IS_CHANGED = 1, BORDER = 2, FED = 3, STAYS = 4, BARRED = 5;
        private static final int NEVER = 1000000;

        private final Net net;
        int count;
        final int[] sets = new int[MOST_SECTORS];
        private int changed;
        int planned;
        final int[] plan = new int[MOST_SECTORS];
        int rowLength;
        final int[] row = new int[MOST_SECTORS];
        /** Of each knot the use of its homes less the make of its works; filled ahead of each search. */
        final int[] lack = new int[MOST_KNOTS];
        /** Of each set of sectors, once they are changed: the price with all that follows, and the knots fed. */
        private final int[] priceFrom = new int[1 << MOST_SECTORS];
        private final int[] fedIn = new int[1 << MOST_SECTORS];
        private final int[] nextIn = new int[1 << MOST_SECTORS];

        Sectors(Net net) {
            this.net = net;
        }

        boolean has(int sector) {
            return isWithin(sector, 0, count - 1);
        }

        int all() {
            return (1 << count) - 1;
        }

        boolean isChanged(int sector) {
            return hasBit(changed, sector);
        }

        int knotsOf(int some) {
            int knots = 0;
            for (int s = 0; s < count; s++) {
                if (hasBit(some, s)) knots |= sets[s];
            }
            return knots;
        }

        int changedKnots() {
            return knotsOf(changed);
        }

        void setChanged(int sector) {
            changed |= 1 << sector;
            int kept = 0;
            for (int i = 0; i < planned; i++) {
                if (plan[i] != sector) plan[kept++] = plan[i];
            }
            planned = kept;
        }

        boolean isPlanned(int sector) {
            for (int i = 0; i < planned; i++) {
                if (plan[i] == sector) return true;
            }
            return false;
        }

        int addToPlan(int sector) {
            if (planned < MOST_SECTORS) plan[planned++] = sector;
            return planned;
        }

        int hindrance(int sector) {
            if (isChanged(sector)) return IS_CHANGED;
            int inside = changedKnots() | sets[sector];
            if (!net.canBePartedFromRest(inside)) return BORDER;
            if ((sets[sector] & ~net.fedWithin(inside)) != 0) return FED;
            return restIsSupplied(inside) ? 0 : STAYS;
        }

        private boolean restIsSupplied(int inside) {
            int rest = net.allKnots() & ~inside;
            int toDo = rest;
            for (int groups = 0; groups < MOST_KNOTS && toDo != 0; groups++) {
                int group = net.spread(1 << lowestIn(toDo), rest, net.near);
                toDo &= ~group;
                if (lackIn(group) > 0) return false;
            }
            return true;
        }

        private int lackIn(int group) {
            int sum = 0;
            for (int k = 0; k < net.knots; k++) {
                if (hasBit(group, k)) sum += lack[k];
            }
            return sum;
        }

        /**
         * What hinders and what a sector costs hang on the set that is changed with it, not on the order
         * ahead: so each set is looked at once, from all sectors down to these that are changed now.
         */
        int findBestRow() {
            if (changed == all()) return STATE;
            for (int some = all(); some > changed; some--) {
                if ((some & changed) == changed) weigh(some);
            }
            int price = priceAfter(changed);
            if (price >= NEVER) return STATE;
            tellRow();
            return price;
        }

        private void weigh(int some) {
            int inside = knotsOf(some);
            int after = priceAfter(some);
            priceFrom[some] = NEVER;
            if (after >= NEVER || !net.canBePartedFromRest(inside) || !restIsSupplied(inside)) return;
            priceFrom[some] = after + net.pipesToRest(inside);
            fedIn[some] = net.fedWithin(inside);
        }

        private int priceAfter(int some) {
            if (some == all()) return 0;
            int least = NEVER;
            for (int s = 0; s < count; s++) {
                int with = some | 1 << s;
                if (with == some || (sets[s] & ~fedIn[with]) != 0) continue;
                if (priceFrom[with] < least) {
                    least = priceFrom[with];
                    nextIn[some] = s;
                }
            }
            return least;
        }

        private void tellRow() {
            rowLength = 0;
            int some = changed;
            for (int i = 0; i < MOST_SECTORS && some != all(); i++) {
                row[rowLength++] = nextIn[some];
                some |= 1 << nextIn[some];
            }
        }
    }

    /** Fitters, and the smells that they look at. */
    private static final class Duty {
        int fitters;
        private final int[] classes = new int[MOST_FITTERS];
        final int[] hours = new int[MOST_FITTERS];
        private final int[] at = new int[MOST_FITTERS];
        private final int[] freeFrom = new int[MOST_FITTERS];
        int smells;
        final int[] smellHome = new int[MOST_SMELLS];
        final int[] smellMinute = new int[MOST_SMELLS];
        final int[] smellFitter = new int[MOST_SMELLS];
        final int[] smellThere = new int[MOST_SMELLS];
        int minutesAllowed = 30;

        boolean hasFitter(int fitter) {
            return isWithin(fitter, 0, fitters - 1);
        }

        boolean hasSmell(int i) {
            return isWithin(i, 0, smells - 1);
        }

        int addFitter(int trainedFor, int hoursADay, int knot) {
            classes[fitters] = trainedFor;
            hours[fitters] = hoursADay;
            at[fitters] = knot;
            return fitters++;
        }

        boolean isTrained(int fitter, int cls) {
            return hasBit(classes[fitter], cls);
        }

        int latestMinute() {
            return smells > 0 ? smellMinute[smells - 1] : 0;
        }

        int addSmell(Net net, int home, int knot, int minute) {
            int first = NONE;
            int there = NONE;
            for (int f = 0; f < fitters; f++) {
                int pipes = net.fewestPipes(at[f], knot);
                if (pipes == NONE) continue;
                int comes = Math.max(minute, freeFrom[f]) + pipes * MINUTES_A_PIPE;
                if (first == NONE || comes < there) {
                    first = f;
                    there = comes;
                }
            }
            smellHome[smells] = home;
            smellMinute[smells] = minute;
            smellFitter[smells] = first;
            smellThere[smells] = there;
            if (first != NONE) {
                freeFrom[first] = there + MINUTES_AT_A_SMELL;
                at[first] = knot;
            }
            return smells++;
        }

        boolean isLate(int i) {
            return smellFitter[i] == NONE || smellThere[i] - smellMinute[i] > minutesAllowed;
        }
    }

    /** The tape, and the laws read from it. */
    private static final class Laws {
        /** In a form a digit stands for a number of up to so many digits. */
        private static final String BAR_FORM = "bar sector 1 week 3 to 3";
        private static final String PAY_FORM = "pay 4 class 1 from week 3";
        private static final int NUMBERS = 3;
        private static final int MATCHES = -1;

        int fed;
        private final int[] tape = new int[MOST_BYTES];
        int count;
        private final boolean[] pays = new boolean[MOST_LAWS];
        private final int[] whom = new int[MOST_LAWS];
        private final int[] fromWeek = new int[MOST_LAWS];
        private final int[] toWeek = new int[MOST_LAWS];
        private final int[] sum = new int[MOST_LAWS];
        private final int[] numbers = new int[NUMBERS];

        int addBytes(int bytes, int n) {
            for (int i = n - 1; i >= 0; i--) {
                tape[fed++] = bytes >> 8 * i & 255;
            }
            return fed;
        }

        int readTape() {
            int barFault = match(BAR_FORM);
            if (barFault == MATCHES) return addLaw(false, numbers[0], numbers[1], numbers[2], 0);
            int payFault = match(PAY_FORM);
            if (payFault == MATCHES) return addLaw(true, numbers[1], numbers[2], 0, numbers[0]);
            fed = 0;
            return LAW_FAULT - Math.max(barFault, payFault);
        }

        private int addLaw(boolean isPay, int who, int first, int last, int pay) {
            pays[count] = isPay;
            whom[count] = who;
            fromWeek[count] = first;
            toWeek[count] = last;
            sum[count] = pay;
            fed = 0;
            return count++;
        }

        private int match(String form) {
            int at = 0;
            int got = 0;
            for (int f = 0; f < form.length(); f++) {
                char sign = form.charAt(f);
                if (isDigit(sign)) {
                    int end = endOfDigits(at, sign - '0');
                    if (end == at) return at;
                    if (got < NUMBERS) numbers[got++] = valueOf(at, end);
                    at = end;
                } else {
                    if (at >= fed || tape[at] != sign) return at;
                    at++;
                }
            }
            return at < fed ? at : MATCHES;
        }

        private static boolean isDigit(int sign) {
            return sign >= '0' && sign <= '9';
        }

        private int endOfDigits(int start, int most) {
            int end = start;
            while (end < fed && end - start < most && isDigit(tape[end])) {
                end++;
            }
            return end;
        }

        private int valueOf(int start, int end) {
            int value = 0;
            for (int i = start; i < end; i++) {
                value = value * 10 + tape[i] - '0';
            }
            return value;
        }

        boolean bars(int sector, int week) {
            for (int i = 0; i < count; i++) {
                if (!pays[i] && whom[i] == sector && isWithin(week, fromWeek[i], toWeek[i])) return true;
            }
            return false;
        }

        int payFor(int cls, int week) {
            for (int i = count - 1; i >= 0; i--) {
                if (pays[i] && whom[i] == cls && fromWeek[i] <= week) return sum[i];
            }
            return 0;
        }
    }

    /** Rows of numbers, each of a sort or missing. */
    private static final class Sheets {
        static final int NO_SORT = -1;

        final int[] sorts = {NO_SORT, NO_SORT, NO_SORT};
        final int[] lengths = new int[SHEETS];
        final int[][] items = new int[SHEETS][MOST_ITEMS];

        boolean has(int sheet) {
            return isWithin(sheet, 0, SHEETS - 1);
        }

        boolean isMissing(int sheet) {
            return sorts[sheet] == NO_SORT;
        }

        boolean hasItem(int sheet, int i) {
            return isWithin(i, 0, lengths[sheet] - 1);
        }

        boolean hasRun(int sheet, int i, int n) {
            return i >= 0 && n >= 0 && n <= lengths[sheet] && i <= lengths[sheet] - n;
        }

        int cutToSort(int sheet, int v) {
            switch (sorts[sheet]) {
                case BYTES: return (byte) v;
                case SHORTS: return (short) v;
                default: return v;
            }
        }
    }
}
