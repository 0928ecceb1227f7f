/** Catalogues of things that run away, houses that read them, skies that make them. */
public final class LadderSky {
    public static final int NONE = -1;

    private static final int REFUSED = -2;
    private static final int NO_SPEED = -10000;
    private static final int NO_LEFT = -1000000;
    private static final int NO_LEAN = -100;
    /** No H can be so small: its size is at most 1000 times the greatest speed. */
    private static final long NO_LINE = -2000000000L;

    private static final int MOST_BYTES = 500;
    private static final int MOST_RUNGS = 6;
    private static final int MOST_THINGS = 24;
    private static final int MOST_STONES = 4;
    private static final int MOST_RULES = 8;
    private static final int MOST_LIGHTS = 6;
    private static final int MOST_CATALOGUES = 3;
    private static final int MOST_HOUSES = 6;
    private static final int MOST_SKIES = 3;
    private static final int MOST_SAYINGS = 16;
    private static final int MOST_IMAGES = 3;
    private static final int YEARS = 100;

    private static final int LAST_NUMBER = 9999;
    private static final int FARTHEST = 9999999;
    private static final int MOST_LEFT = 999999;
    private static final int MOST_RATIO = 999999;
    private static final int MOST_SAID = 999999;
    private static final int MOST_LEAN = 50;
    private static final int MOST_WIDER = 1000000;
    private static final int FARTHEST_SEEN = 200;
    private static final int FARTHEST_IN_ALL = 60;
    private static final int MOST_WORLDS = 20;
    private static final int MOST_ORDERED = 7;
    private static final int MOST_ALIKE = 14;
    private static final int MOST_HEAP = 999;

    private static final int FIRST = 0;
    private static final int MEAN = 1;
    private static final int LAST = 2;

    private static final int SLOWER = 0;
    private static final int FASTER = 1;
    private static final int NEARER = 2;
    private static final int FARTHER = 3;
    private static final int ODDEST = 4;

    private final Told told = new Told();
    private final Told[] images = new Told[MOST_IMAGES];
    private final Reader reader = new Reader();
    private final Catalogue draftCatalogue = new Catalogue();
    private final House draftHouse = new House();
    private final Sky draftSky = new Sky();
    private final Survey survey = new Survey();
    private final Ratios ratios = new Ratios();
    private final Chronicle chronicle = new Chronicle();
    private final Orders orders = new Orders();

    public LadderSky() {
    }

    // The tape and the texts

    public int feed(int a, int b, int c, int d, int e) {
        if (told.length + 20 > MOST_BYTES) {
            return NONE;
        }
        told.append(a);
        told.append(b);
        told.append(c);
        told.append(d);
        told.append(e);
        return told.length;
    }

    public int end(int n) {
        if (n < 0 || n > told.length) {
            return NONE;
        }
        told.length = n;
        return n;
    }

    public int text(int sort, int at) {
        int length = told.length;
        told.length = 0;
        told.fault = 0;
        told.place = NONE;
        int where = told.placeFor(sort, at);
        if (where == NONE) {
            return REFUSED;
        }
        reader.open(told.tape, length);
        if (sort == 0) {
            reader.readCatalogue(draftCatalogue);
        } else if (sort == 1) {
            reader.readHouse(draftHouse);
        } else {
            reader.readSky(draftSky);
        }
        if (reader.fault != 0) {
            told.fault = reader.fault;
            told.place = reader.place;
            return NONE;
        }
        keepDraft(sort, where);
        return where;
    }

    private void keepDraft(int sort, int where) {
        if (sort == 0) {
            told.putCatalogue(where, draftCatalogue);
        } else if (sort == 1) {
            told.putHouse(where, draftHouse);
        } else {
            told.putSky(where, draftSky);
        }
    }

    public int fault(int what) {
        if (what == 0) {
            return told.fault;
        }
        return what == 1 ? told.place : NONE;
    }

    // What a catalogue and a house hold

    public int about(int catalogue, int what) {
        if (!isCatalogue(catalogue)) {
            return NONE;
        }
        Catalogue c = told.catalogues[catalogue];
        switch (what) {
            case 0:
                return c.rungs;
            case 1:
                return c.things;
            case 2:
                return c.stones;
            case 3:
                return c.countEntries();
            default:
                break;
        }
        if (what >= 10 && what < 20) {
            return c.footing(what - 10);
        }
        return what >= 20 ? c.stoneAge(what - 20) : NONE;
    }

    public int speed(int catalogue, int thing) {
        return isThing(catalogue, thing) ? told.catalogues[catalogue].speeds[thing] : NO_SPEED;
    }

    public int entry(int catalogue, int thing, int rung, boolean year) {
        if (!isThing(catalogue, thing) || !isRung(catalogue, rung)) {
            return NONE;
        }
        Catalogue c = told.catalogues[catalogue];
        int at = thing * MOST_RUNGS + rung;
        if (c.raws[at] == 0) {
            return NONE;
        }
        return year ? c.years[at] : c.raws[at];
    }

    public boolean has(int catalogue, int thing, int rung, int raw, int year) {
        if (!isThing(catalogue, thing) || !isRung(catalogue, rung)) {
            return false;
        }
        if (raw < 1 || raw > LAST_NUMBER || !isYear(year)) {
            return false;
        }
        told.catalogues[catalogue].enter(thing, rung, raw, year);
        return true;
    }

    public boolean lean(int house, int rung, int percent) {
        if (!isHouse(house) || rung < 0 || rung >= MOST_RUNGS) {
            return false;
        }
        if (percent < -MOST_LEAN || percent > MOST_LEAN) {
            return false;
        }
        told.houses[house].leans[rung] = percent;
        return true;
    }

    public boolean cast(int house, int thing, boolean out) {
        if (!isHouse(house) || thing < 0 || thing >= MOST_THINGS) {
            return false;
        }
        House h = told.houses[house];
        if (h.casts(thing) == out) {
            return false;
        }
        h.cast ^= 1 << thing;
        return true;
    }

    public int of(int house, int what) {
        if (!isHouse(house)) {
            return NO_LEAN;
        }
        House h = told.houses[house];
        switch (what) {
            case 0:
                return h.uses;
            case 1:
                return h.way;
            case 2:
                return h.cast;
            case 3:
                return h.rules;
            default:
                return what >= 10 && what < 10 + MOST_RUNGS ? h.leans[what - 10] : NO_LEAN;
        }
    }

    // The ladder and the line

    public int scale(int catalogue, int house, int year, int rung) {
        if (!isRung(catalogue, rung) || !look(catalogue, house, year)) {
            return NONE;
        }
        return survey.scales[rung];
    }

    public int far(int catalogue, int house, int year, int thing, int rung) {
        if (!isThing(catalogue, thing) || !look(catalogue, house, year)) {
            return NONE;
        }
        if (rung == NONE) {
            return survey.fars[thing];
        }
        return isRung(catalogue, rung) ? survey.farBy(thing, rung) : NONE;
    }

    public long line(int catalogue, int house, int year, int what) {
        if (!look(catalogue, house, year)) {
            return NO_LINE;
        }
        switch (what) {
            case 0:
                return survey.n;
            case 1:
                return survey.slope();
            case 2:
                return survey.turnedSlope();
            case 3:
                return survey.crossedSlope();
            default:
                return NO_LINE;
        }
    }

    public int left(int catalogue, int house, int year, int thing) {
        if (!isThing(catalogue, thing) || !look(catalogue, house, year)) {
            return NO_LEFT;
        }
        long h = survey.slope();
        if (h == NO_LINE || survey.fars[thing] == NONE) {
            return NO_LEFT;
        }
        return survey.leftOf(thing, h);
    }

    public long spread(int catalogue, int house, int year) {
        if (!look(catalogue, house, year)) {
            return NONE;
        }
        long h = survey.slope();
        return h == NO_LINE ? NONE : survey.spreadBut(NONE, h);
    }

    public long without(int catalogue, int house, int year, int thing) {
        if (!isThing(catalogue, thing) || !look(catalogue, house, year)) {
            return NO_LINE;
        }
        return survey.slopeBut(thing);
    }

    public long span(int catalogue, int house, int year, boolean high) {
        if (!look(catalogue, house, year)) {
            return NO_LINE;
        }
        return high ? survey.highest() : survey.lowest();
    }

    public int odd(int catalogue, int house, int year, boolean heavy) {
        if (!look(catalogue, house, year)) {
            return NONE;
        }
        return heavy ? survey.heavyOne() : survey.oddOne();
    }

    public int age(int catalogue, int house, int year) {
        return look(catalogue, house, year) ? ageBy(survey.slope()) : NONE;
    }

    public int barred(int catalogue, int house, int year) {
        if (!look(catalogue, house, year)) {
            return NONE;
        }
        int most = ageBy(survey.slope());
        return most == NONE ? NONE : told.catalogues[catalogue].stonesOver(most);
    }

    private static int ageBy(long h) {
        return h > 0 ? (int) (100000000L / h) : NONE;
    }

    // Leans, other houses, other years

    public long up(int catalogue, int house, int year, int rung) {
        if (!isRung(catalogue, rung) || !look(catalogue, house, year)) {
            return NO_LINE;
        }
        return lifted(told.catalogues[catalogue], told.houses[house], year, rung, survey.slope());
    }

    public int worst(int catalogue, int house, int year) {
        if (!look(catalogue, house, year)) {
            return NONE;
        }
        Catalogue c = told.catalogues[catalogue];
        long h = survey.slope();
        int worst = NONE;
        long most = -1;
        for (int rung = 0; rung < c.rungs; rung++) {
            long up = lifted(c, told.houses[house], year, rung, h);
            if (up != NO_LINE && apart(up, 0) > most) {
                most = apart(up, 0);
                worst = rung;
            }
        }
        return worst;
    }

    private long lifted(Catalogue c, House house, int year, int rung, long h) {
        draftHouse.copy(house);
        draftHouse.leans[rung]++;
        survey.look(c, draftHouse, year);
        long other = survey.slope();
        return h == NO_LINE || other == NO_LINE ? NO_LINE : other - h;
    }

    public int part(int catalogue, int a, int b, int year) {
        if (!isHouse(b) || !look(catalogue, a, year)) {
            return NONE;
        }
        Catalogue c = told.catalogues[catalogue];
        long h = survey.slope();
        int parting = NONE;
        long most = -1;
        for (int rung = 0; rung < c.rungs && h != NO_LINE; rung++) {
            draftHouse.copy(told.houses[a]);
            draftHouse.follow(told.houses[b], rung);
            survey.look(c, draftHouse, year);
            long other = survey.slope();
            if (other != NO_LINE && apart(other, h) > most) {
                most = apart(other, h);
                parting = rung;
            }
        }
        return parting;
    }

    public boolean agree(int catalogue, int a, int b, int year) {
        if (!isHouse(b) || !look(catalogue, a, year)) {
            return false;
        }
        long lowA = survey.lowest();
        long highA = survey.highest();
        survey.look(told.catalogues[catalogue], told.houses[b], year);
        long lowB = survey.lowest();
        long highB = survey.highest();
        if (lowA == NO_LINE || lowB == NO_LINE) {
            return false;
        }
        return lowA <= highB && lowB <= highA;
    }

    public int since(int catalogue, int house) {
        if (!isCatalogue(catalogue) || !isHouse(house)) {
            return NONE;
        }
        chronicle.fill(survey, told.catalogues[catalogue], told.houses[house]);
        for (int year = 0; year < YEARS; year++) {
            if (chronicle.slopes[year] != NO_LINE) {
                return year;
            }
        }
        return NONE;
    }

    public int stands(int catalogue, int house, int p) {
        if (!isCatalogue(catalogue) || !isHouse(house) || p < 0 || p > 100) {
            return NONE;
        }
        chronicle.fill(survey, told.catalogues[catalogue], told.houses[house]);
        long last = chronicle.slopes[YEARS - 1];
        if (last == NO_LINE) {
            return NONE;
        }
        long may = p * apart(last, 0) / 100;
        int first = YEARS - 1;
        while (first > 0 && chronicle.slopes[first - 1] != NO_LINE && apart(chronicle.slopes[first - 1], last) <= may) {
            first--;
        }
        return first;
    }

    public int changes(int catalogue, int house) {
        if (!isCatalogue(catalogue) || !isHouse(house)) {
            return NONE;
        }
        chronicle.fill(survey, told.catalogues[catalogue], told.houses[house]);
        int changed = 0;
        for (int year = 1; year < YEARS; year++) {
            if (chronicle.slopes[year] != chronicle.slopes[year - 1]) {
                changed++;
            }
        }
        return changed;
    }

    public int across(int catalogue, int a, int b, int year) {
        if (!isHouse(b) || !look(catalogue, a, year)) {
            return NONE;
        }
        Catalogue c = told.catalogues[catalogue];
        int[] fars = survey.setFarsAside();
        survey.look(c, told.houses[b], year);
        int furthest = NONE;
        long most = -1;
        for (int thing = 0; thing < c.things; thing++) {
            if (fars[thing] <= 0 || survey.fars[thing] == NONE) {
                continue;
            }
            long by = apart(fars[thing], survey.fars[thing]) * 1000 / fars[thing];
            if (by > most) {
                most = by;
                furthest = thing;
            }
        }
        return furthest;
    }

    public long path(int catalogue, int a, int b, int year, int r) {
        if (!isCatalogue(catalogue) || !isHouse(a) || !isHouse(b) || !isYear(year) || !isRung(catalogue, r)) {
            return NO_LINE;
        }
        draftHouse.copy(told.houses[a]);
        for (int rung = 0; rung <= r; rung++) {
            draftHouse.follow(told.houses[b], rung);
        }
        survey.look(told.catalogues[catalogue], draftHouse, year);
        return survey.slope();
    }

    public int strait(int catalogue, int house, int year) {
        if (!isCatalogue(catalogue) || !isHouse(house) || !isYear(year)) {
            return NONE;
        }
        Catalogue c = told.catalogues[catalogue];
        House h = told.houses[house];
        int strait = NONE;
        long least = 0;
        for (int rung = 0; rung < c.rungs; rung++) {
            if (!h.usesRung(rung)) {
                continue;
            }
            draftHouse.copy(h);
            draftHouse.uses = h.uses & ~(1 << rung);
            survey.look(c, draftHouse, year);
            long width = survey.width();
            if (width != NONE && (strait == NONE || width < least)) {
                least = width;
                strait = rung;
            }
        }
        return strait;
    }

    public int next(int catalogue, int house, int year) {
        if (!look(catalogue, house, year)) {
            return NONE;
        }
        long h = survey.slope();
        if (h == NO_LINE || h == 0) {
            return NONE;
        }
        Catalogue c = told.catalogues[catalogue];
        int next = NONE;
        long least = 0;
        for (int thing = 0; thing < c.things; thing++) {
            if (survey.fars[thing] != NONE || told.houses[house].casts(thing)) {
                continue;
            }
            long far = 1000L * c.speeds[thing] / h;
            survey.join(thing, (int) Math.max(1, Math.min(FARTHEST, far)));
            long width = survey.width();
            survey.drop(thing);
            if (width != NONE && (next == NONE || width < least)) {
                least = width;
                next = thing;
            }
        }
        return next;
    }

    // A rung that is two sorts

    public int sorts(int catalogue, int house, int year, int rung, int what) {
        if (!gather(catalogue, house, year, rung)) {
            return NONE;
        }
        if (what == 1) {
            return ratios.n;
        }
        if (what >= 10) {
            return what - 10 < ratios.n ? ratios.things[what - 10] : NONE;
        }
        int k = ratios.split();
        if (k == NONE) {
            return NONE;
        }
        switch (what) {
            case 0:
                return k;
            case 2:
                return ratios.mean(0, k);
            case 3:
                return ratios.mean(k, ratios.n);
            default:
                return NONE;
        }
    }

    public int alike(int catalogue, int house, int year, int rung) {
        if (!gather(catalogue, house, year, rung)) {
            return NONE;
        }
        return ratios.n >= 2 && ratios.n <= MOST_ALIKE ? ratios.setsAlike() : NONE;
    }

    public int heaps(int catalogue, int house, int year, int rung, int f) {
        if (f < 1 || f > MOST_HEAP || !gather(catalogue, house, year, rung)) {
            return NONE;
        }
        return ratios.n == 0 ? NONE : ratios.above(f);
    }

    private boolean gather(int catalogue, int house, int year, int rung) {
        if (!isRung(catalogue, rung) || !look(catalogue, house, year)) {
            return false;
        }
        ratios.gather(survey, rung);
        return true;
    }

    // The line once more: by orders, by its middle

    public int chance(int catalogue, int house, int year) {
        if (!look(catalogue, house, year) || survey.n < 2 || survey.n > MOST_ORDERED) {
            return NONE;
        }
        return orders.atLeastAsTold(survey);
    }

    public long middle(int catalogue, int house, int year) {
        if (!look(catalogue, house, year)) {
            return NO_LINE;
        }
        ratios.gatherSpeeds(survey);
        return ratios.n == 0 ? NO_LINE : ratios.values[(ratios.n - 1) / 2];
    }

    // Skies

    public int sky(int sky, int what) {
        if (!isSky(sky)) {
            return NONE;
        }
        Sky s = told.skies[sky];
        switch (what) {
            case 0:
                return s.lights;
            case 1:
                return s.speed;
            case 2:
                return s.own;
            case 3:
                return s.err;
            case 4:
                return s.limit;
            case 5:
                return s.tries;
            default:
                break;
        }
        if (what >= 10 && what < 10 + s.lights) {
            return s.bright[what - 10];
        }
        return what >= 20 && what < 20 + s.lights ? s.many[what - 20] : NONE;
    }

    public int seen(int sky, int far) {
        if (!isSky(sky) || far < 1 || far > FARTHEST_SEEN) {
            return NONE;
        }
        return told.skies[sky].countSeen(far);
    }

    public long chosen(int sky, int far, boolean all, boolean under) {
        if (!isSky(sky) || far < 1 || far > (all ? FARTHEST_IN_ALL : FARTHEST_SEEN)) {
            return NONE;
        }
        Sky s = told.skies[sky];
        long seen = 0;
        long light = 0;
        for (int e = all ? 1 : far; e <= far; e++) {
            long times = (long) e * e;
            seen += times * s.countSeen(e);
            light += times * s.lightSeen(e);
        }
        if (seen == 0) {
            return NONE;
        }
        long above = light * s.countAll();
        long below = seen * s.lightOfAll();
        long common = greatestCommon(above, below);
        if (common == 0) {
            return NONE;
        }
        return (under ? below : above) / common;
    }

    public int make(int sky, int at, int seed) {
        int where = isSky(sky) ? told.placeFor(0, at) : NONE;
        if (where == NONE) {
            return NONE;
        }
        told.skies[sky].fill(draftCatalogue, seed);
        told.putCatalogue(where, draftCatalogue);
        return where;
    }

    public long worlds(int sky, int house, int seed, int n, int what) {
        if (!isSky(sky) || !isHouse(house) || n < 1 || n > MOST_WORLDS || what < 0 || what > 2) {
            return NONE;
        }
        Sky s = told.skies[sky];
        int lined = 0;
        int hit = 0;
        long together = 0;
        for (int i = 0; i < n; i++) {
            s.fill(draftCatalogue, seed + i);
            survey.look(draftCatalogue, told.houses[house], 0);
            long h = survey.slope();
            if (h != NO_LINE) {
                lined++;
                together += h;
            }
            if (survey.spans(10L * s.speed)) {
                hit++;
            }
        }
        if (what == 0) {
            return lined;
        }
        if (what == 2) {
            return hit;
        }
        return lined == 0 ? NONE : together / lined;
    }

    // What was said

    public int say(int house, int year, int low, int high) {
        if (told.sayingCount >= MOST_SAYINGS || !isHouse(house) || !isYear(year)) {
            return NONE;
        }
        if (low < -MOST_SAID || high > MOST_SAID || low >= high) {
            return NONE;
        }
        told.sayings[told.sayingCount].set(house, year, low, high);
        told.sayingCount++;
        return told.sayingCount - 1;
    }

    public int kept(int catalogue, int what) {
        if (!isCatalogue(catalogue)) {
            return NONE;
        }
        Catalogue c = told.catalogues[catalogue];
        switch (what) {
            case 0:
                return countKept(c);
            case 1:
                return countLined(c);
            case 2:
                return wider(c);
            default:
                break;
        }
        if (what >= 10 && what < 10 + told.sayingCount) {
            Saying saying = told.sayings[what - 10];
            return saying.holds(lastSlope(c, saying)) ? 1 : 0;
        }
        return what >= 30 && what < 30 + told.sayingCount ? until(c, told.sayings[what - 30]) : NONE;
    }

    private long lastSlope(Catalogue c, Saying saying) {
        survey.look(c, told.houses[saying.house], YEARS - 1);
        return survey.slope();
    }

    private int countKept(Catalogue c) {
        int found = 0;
        for (int k = 0; k < told.sayingCount; k++) {
            if (told.sayings[k].holds(lastSlope(c, told.sayings[k]))) {
                found++;
            }
        }
        return found;
    }

    private int countLined(Catalogue c) {
        int found = 0;
        for (int k = 0; k < told.sayingCount; k++) {
            if (lastSlope(c, told.sayings[k]) != NO_LINE) {
                found++;
            }
        }
        return found;
    }

    private int wider(Catalogue c) {
        long most = 0;
        for (int k = 0; k < told.sayingCount; k++) {
            long h = lastSlope(c, told.sayings[k]);
            if (h != NO_LINE) {
                most = Math.max(most, told.sayings[k].widthFor(h));
            }
        }
        return most > MOST_WIDER ? NONE : (int) most;
    }

    private int until(Catalogue c, Saying saying) {
        chronicle.fill(survey, c, told.houses[saying.house]);
        for (int year = saying.year; year < YEARS; year++) {
            if (!saying.holds(chronicle.slopes[year])) {
                return year;
            }
        }
        return NONE;
    }

    public long beside(int catalogue, int house, int year, int low, int high) {
        if (low > high || !look(catalogue, house, year)) {
            return NO_LINE;
        }
        long h = survey.slope();
        if (h == NO_LINE) {
            return NO_LINE;
        }
        if (h > high) {
            return h - high;
        }
        return h < low ? h - low : 0;
    }

    // How many there are, and images of all of them

    public int count(int what) {
        switch (what) {
            case 0:
                return told.catalogueCount;
            case 1:
                return told.houseCount;
            case 2:
                return told.skyCount;
            case 3:
                return told.sayingCount;
            default:
                return REFUSED;
        }
    }

    public boolean image(int k) {
        if (k < 0 || k >= MOST_IMAGES) {
            return false;
        }
        if (images[k] == null) {
            images[k] = new Told();
        }
        images[k].copy(told);
        return true;
    }

    public boolean again(int k) {
        if (k < 0 || k >= MOST_IMAGES || images[k] == null) {
            return false;
        }
        told.copy(images[k]);
        return true;
    }

    // What the calls share

    private boolean look(int catalogue, int house, int year) {
        if (!isCatalogue(catalogue) || !isHouse(house) || !isYear(year)) {
            return false;
        }
        survey.look(told.catalogues[catalogue], told.houses[house], year);
        return true;
    }

    private boolean isCatalogue(int catalogue) {
        return catalogue >= 0 && catalogue < told.catalogueCount;
    }

    private boolean isHouse(int house) {
        return house >= 0 && house < told.houseCount;
    }

    private boolean isSky(int sky) {
        return sky >= 0 && sky < told.skyCount;
    }

    private boolean isThing(int catalogue, int thing) {
        return isCatalogue(catalogue) && thing >= 0 && thing < told.catalogues[catalogue].things;
    }

    private boolean isRung(int catalogue, int rung) {
        return isCatalogue(catalogue) && rung >= 0 && rung < told.catalogues[catalogue].rungs;
    }

    private static boolean isYear(int year) {
        return year >= 0 && year < YEARS;
    }

    private static long apart(long a, long b) {
        return a < b ? b - a : a - b;
    }

    private static long greatestCommon(long a, long b) {
        // Each two turns halve b at least, so that 200 are more than a long can need.
        for (int turn = 0; turn < 200 && b != 0; turn++) {
            long rest = a % b;
            a = b;
            b = rest;
        }
        return a;
    }

    /** Rungs, things, entries and stones. */
    private static final class Catalogue {
        int rungs;
        int things;
        int stones;
        final int[] on = new int[MOST_RUNGS];
        final int[] scales = new int[MOST_RUNGS];
        final int[] steps = new int[MOST_RUNGS];
        final int[] speeds = new int[MOST_THINGS];
        /** 0 where there is no entry: no raw number is 0. */
        final int[] raws = new int[MOST_THINGS * MOST_RUNGS];
        final int[] years = new int[MOST_THINGS * MOST_RUNGS];
        final int[] ages = new int[MOST_STONES];

        void clear() {
            rungs = 0;
            things = 0;
            stones = 0;
            for (int i = 0; i < raws.length; i++) {
                raws[i] = 0;
            }
        }

        void copy(Catalogue from) {
            rungs = from.rungs;
            things = from.things;
            stones = from.stones;
            System.arraycopy(from.on, 0, on, 0, MOST_RUNGS);
            System.arraycopy(from.scales, 0, scales, 0, MOST_RUNGS);
            System.arraycopy(from.steps, 0, steps, 0, MOST_RUNGS);
            System.arraycopy(from.speeds, 0, speeds, 0, MOST_THINGS);
            System.arraycopy(from.raws, 0, raws, 0, MOST_THINGS * MOST_RUNGS);
            System.arraycopy(from.years, 0, years, 0, MOST_THINGS * MOST_RUNGS);
            System.arraycopy(from.ages, 0, ages, 0, MOST_STONES);
        }

        void addBase(int scale) {
            if (rungs < MOST_RUNGS) {
                on[rungs] = NONE;
                scales[rungs] = scale;
                steps[rungs] = 0;
                rungs++;
            }
        }

        void addOn(int other) {
            if (rungs < MOST_RUNGS && other >= 0 && other < rungs) {
                on[rungs] = other;
                scales[rungs] = 0;
                steps[rungs] = steps[other] + 1;
                rungs++;
            }
        }

        void addThing(int speed) {
            if (things < MOST_THINGS) {
                speeds[things] = speed;
                things++;
            }
        }

        void addStone(int age) {
            if (stones < MOST_STONES) {
                ages[stones] = age;
                stones++;
            }
        }

        void enter(int thing, int rung, int raw, int year) {
            if (thing >= 0 && thing < things && rung >= 0 && rung < rungs) {
                raws[thing * MOST_RUNGS + rung] = raw;
                years[thing * MOST_RUNGS + rung] = year;
            }
        }

        /** 0 if there is no entry, or it was not known by that year. */
        int rawBy(int thing, int rung, int year) {
            int at = thing * MOST_RUNGS + rung;
            return years[at] <= year ? raws[at] : 0;
        }

        int countEntries() {
            int found = 0;
            for (int i = 0; i < raws.length; i++) {
                if (raws[i] != 0) {
                    found++;
                }
            }
            return found;
        }

        int footing(int rung) {
            if (rung < 0 || rung >= rungs) {
                return NONE;
            }
            return on[rung] == NONE ? 100 + scales[rung] : on[rung];
        }

        int stoneAge(int stone) {
            return stone >= 0 && stone < stones ? ages[stone] : NONE;
        }

        int stonesOver(int age) {
            int bits = 0;
            for (int stone = 0; stone < stones; stone++) {
                if (ages[stone] > age) {
                    bits |= 1 << stone;
                }
            }
            return bits;
        }
    }

    /** Which rungs are used and how, leans, things cast out, rules. */
    private static final class House {
        int uses;
        int way;
        int cast;
        int rules;
        final int[] leans = new int[MOST_RUNGS];
        final int[] kinds = new int[MOST_RULES];
        final int[] sizes = new int[MOST_RULES];

        void clear() {
            uses = 0;
            way = FIRST;
            cast = 0;
            rules = 0;
            for (int rung = 0; rung < MOST_RUNGS; rung++) {
                leans[rung] = 0;
            }
        }

        void copy(House from) {
            uses = from.uses;
            way = from.way;
            cast = from.cast;
            rules = from.rules;
            System.arraycopy(from.leans, 0, leans, 0, MOST_RUNGS);
            System.arraycopy(from.kinds, 0, kinds, 0, MOST_RULES);
            System.arraycopy(from.sizes, 0, sizes, 0, MOST_RULES);
        }

        void addRule(int kind, int size) {
            if (rules < MOST_RULES) {
                kinds[rules] = kind;
                sizes[rules] = size;
                rules++;
            }
        }

        boolean usesRung(int rung) {
            return (uses >> rung & 1) == 1;
        }

        boolean casts(int thing) {
            return (cast >> thing & 1) == 1;
        }

        /** At one rung this house does from now on as another one does. */
        void follow(House other, int rung) {
            int bit = 1 << rung;
            uses = uses & ~bit | other.uses & bit;
            leans[rung] = other.leans[rung];
        }
    }

    /** Lights, and what makes catalogues of them. */
    private static final class Sky {
        int lights;
        int speed;
        int own;
        int err;
        int limit;
        int tries;
        final int[] bright = new int[MOST_LIGHTS];
        final int[] many = new int[MOST_LIGHTS];

        void clear() {
            lights = 0;
            speed = 0;
            own = 0;
            err = 0;
            limit = 1;
            tries = MOST_THINGS;
        }

        void copy(Sky from) {
            lights = from.lights;
            speed = from.speed;
            own = from.own;
            err = from.err;
            limit = from.limit;
            tries = from.tries;
            System.arraycopy(from.bright, 0, bright, 0, MOST_LIGHTS);
            System.arraycopy(from.many, 0, many, 0, MOST_LIGHTS);
        }

        void addLights(int howBright, int howMany) {
            if (lights < MOST_LIGHTS) {
                bright[lights] = howBright;
                many[lights] = howMany;
                lights++;
            }
        }

        boolean isSeen(int light, int far) {
            return 10000 * bright[light] >= limit * far * far;
        }

        int countSeen(int far) {
            int found = 0;
            for (int light = 0; light < lights; light++) {
                found += isSeen(light, far) ? many[light] : 0;
            }
            return found;
        }

        int lightSeen(int far) {
            int sum = 0;
            for (int light = 0; light < lights; light++) {
                sum += isSeen(light, far) ? many[light] * bright[light] : 0;
            }
            return sum;
        }

        int countAll() {
            int sum = 0;
            for (int light = 0; light < lights; light++) {
                sum += many[light];
            }
            return sum;
        }

        int lightOfAll() {
            int sum = 0;
            for (int light = 0; light < lights; light++) {
                sum += many[light] * bright[light];
            }
            return sum;
        }

        int lightAt(int place) {
            int light = 0;
            int rest = place;
            while (light < lights - 1 && rest >= many[light]) {
                rest -= many[light];
                light++;
            }
            return light;
        }

        void fill(Catalogue c, int seed) {
            c.clear();
            c.addBase(1000);
            c.addOn(0);
            int all = countAll();
            int x = seed;
            for (int i = 0; i < tries; i++) {
                x = stir(x);
                int far = 1 + drawn(x, FARTHEST_SEEN);
                x = stir(x);
                int light = lightAt(drawn(x, all));
                x = stir(x);
                int more = drawn(x, 2 * own + 1) - own;
                x = stir(x);
                int wrong = drawn(x, 2 * err + 1) - err;
                if (isSeen(light, far)) {
                    addSeen(c, far, more, wrong);
                }
            }
        }

        private void addSeen(Catalogue c, int far, int more, int wrong) {
            int away = speed * far / 100 + more;
            int thing = c.things;
            c.addThing(Math.max(-LAST_NUMBER, Math.min(LAST_NUMBER, away)));
            if (far < 50) {
                c.enter(thing, 0, far, 0);
            }
            c.enter(thing, 1, Math.max(1, 2 * far * (100 + wrong) / 100), 0);
        }

        private static int stir(int x) {
            return x * 1103515245 + 12345;
        }

        private static int drawn(int x, int below) {
            return below > 0 ? (x >>> 16) % below : 0;
        }
    }

    /** What a house said by a year of its H. */
    private static final class Saying {
        int house;
        int year;
        int low;
        int high;

        void set(int who, int when, int from, int to) {
            house = who;
            year = when;
            low = from;
            high = to;
        }

        boolean holds(long h) {
            return h != NO_LINE && h >= low && h <= high;
        }

        /** The least so many of 100 of its own width by which h would lie within. */
        long widthFor(long h) {
            long width = (long) high - low;
            if (width <= 0) {
                return MOST_WIDER + 1L;
            }
            long off = apart(2 * h, (long) low + high) * 100;
            return (off + width - 1) / width;
        }
    }

    /** All that is told, so that an image is a copy of one such object. */
    private static final class Told {
        final byte[] tape = new byte[MOST_BYTES];
        int length;
        int fault;
        int place = NONE;
        int catalogueCount;
        int houseCount;
        int skyCount;
        int sayingCount;
        final Catalogue[] catalogues = new Catalogue[MOST_CATALOGUES];
        final House[] houses = new House[MOST_HOUSES];
        final Sky[] skies = new Sky[MOST_SKIES];
        final Saying[] sayings = new Saying[MOST_SAYINGS];

        Told() {
            for (int i = 0; i < MOST_CATALOGUES; i++) {
                catalogues[i] = new Catalogue();
            }
            for (int i = 0; i < MOST_HOUSES; i++) {
                houses[i] = new House();
            }
            for (int i = 0; i < MOST_SKIES; i++) {
                skies[i] = new Sky();
            }
            for (int i = 0; i < MOST_SAYINGS; i++) {
                sayings[i] = new Saying();
            }
        }

        void copy(Told from) {
            System.arraycopy(from.tape, 0, tape, 0, MOST_BYTES);
            length = from.length;
            fault = from.fault;
            place = from.place;
            catalogueCount = from.catalogueCount;
            houseCount = from.houseCount;
            skyCount = from.skyCount;
            sayingCount = from.sayingCount;
            for (int i = 0; i < catalogueCount; i++) {
                catalogues[i].copy(from.catalogues[i]);
            }
            for (int i = 0; i < houseCount; i++) {
                houses[i].copy(from.houses[i]);
            }
            for (int i = 0; i < skyCount; i++) {
                skies[i].copy(from.skies[i]);
            }
            for (int i = 0; i < sayingCount; i++) {
                Saying saying = from.sayings[i];
                sayings[i].set(saying.house, saying.year, saying.low, saying.high);
            }
        }

        void append(int number) {
            for (int shift = 24; shift >= 0 && length < MOST_BYTES; shift -= 8) {
                tape[length] = (byte) (number >> shift);
                length++;
            }
        }

        /** Where one of that sort may be put; NONE if nowhere. */
        int placeFor(int sort, int at) {
            if (sort < 0 || sort > 2) {
                return NONE;
            }
            int have = sort == 0 ? catalogueCount : sort == 1 ? houseCount : skyCount;
            int most = sort == 0 ? MOST_CATALOGUES : sort == 1 ? MOST_HOUSES : MOST_SKIES;
            if (at == NONE) {
                return have < most ? have : NONE;
            }
            return at >= 0 && at < have ? at : NONE;
        }

        void putCatalogue(int where, Catalogue from) {
            if (where >= 0 && where < MOST_CATALOGUES) {
                catalogues[where].copy(from);
                catalogueCount = Math.max(catalogueCount, where + 1);
            }
        }

        void putHouse(int where, House from) {
            if (where >= 0 && where < MOST_HOUSES) {
                houses[where].copy(from);
                houseCount = Math.max(houseCount, where + 1);
            }
        }

        void putSky(int where, Sky from) {
            if (where >= 0 && where < MOST_SKIES) {
                skies[where].copy(from);
                skyCount = Math.max(skyCount, where + 1);
            }
        }
    }

    /** Reads a tape token by token; goes on behind faults 2 and 3, since a later fault 1 goes ahead of them. */
    private static final class Reader {
        private static final int END = 0;
        private static final int WORD = 1;
        private static final int NUMBER = 2;
        private static final int MARK = 3;
        private static final int NO_TOKEN = 4;
        private static final int MOST_DIGITS = 4;

        private final byte[] tape = new byte[MOST_BYTES];
        private int length;
        private int behind;
        private int at;
        private int kind;
        private int value;
        int fault;
        int place;

        void open(byte[] from, int howMany) {
            length = Math.max(0, Math.min(howMany, Math.min(from.length, MOST_BYTES)));
            System.arraycopy(from, 0, tape, 0, length);
            behind = 0;
            fault = 0;
            place = NONE;
            step();
        }

        void readCatalogue(Catalogue c) {
            c.clear();
            for (int lines = 0; lines < MOST_BYTES && goesOn(); lines++) {
                if (isWord("base")) {
                    readBase(c);
                } else if (isWord("on")) {
                    readOn(c);
                } else if (isWord("away")) {
                    readThing(c, 1);
                } else if (isWord("toward")) {
                    readThing(c, -1);
                } else if (isWord("stone")) {
                    readStone(c);
                } else if (isWord("has")) {
                    readEntry(c);
                } else {
                    breakOff();
                }
            }
        }

        private void readBase(Catalogue c) {
            needRoom(c.rungs, MOST_RUNGS);
            step();
            int scale = readNumber(1, LAST_NUMBER);
            if (endsSound()) {
                c.addBase(scale);
            }
        }

        private void readOn(Catalogue c) {
            needRoom(c.rungs, MOST_RUNGS);
            step();
            int other = readNumber(0, c.rungs - 1);
            if (endsSound()) {
                c.addOn(other);
            }
        }

        private void readThing(Catalogue c, int sign) {
            needRoom(c.things, MOST_THINGS);
            step();
            int speed = readNumber(0, LAST_NUMBER);
            if (endsSound()) {
                c.addThing(sign * speed);
            }
        }

        private void readStone(Catalogue c) {
            needRoom(c.stones, MOST_STONES);
            step();
            int age = readNumber(1, LAST_NUMBER);
            if (endsSound()) {
                c.addStone(age);
            }
        }

        private void readEntry(Catalogue c) {
            step();
            int thing = readNumber(0, c.things - 1);
            int rung = readNumber(0, c.rungs - 1);
            int raw = readNumber(1, LAST_NUMBER);
            int year = readNumber(0, YEARS - 1);
            if (endsSound()) {
                c.enter(thing, rung, raw, year);
            }
        }

        void readHouse(House h) {
            h.clear();
            for (int lines = 0; lines < MOST_BYTES && goesOn(); lines++) {
                if (isWord("use")) {
                    readUse(h);
                } else if (isWord("way")) {
                    readWay(h);
                } else if (isWord("lean")) {
                    readLean(h);
                } else if (isWord("cast")) {
                    readCast(h);
                } else if (isWord("throw")) {
                    readRule(h);
                } else {
                    breakOff();
                }
            }
        }

        private void readUse(House h) {
            step();
            int rung = readNumber(0, MOST_RUNGS - 1);
            if (endsSound()) {
                h.uses |= 1 << rung;
            }
        }

        private void readWay(House h) {
            step();
            int way = isWord("first") ? FIRST : isWord("mean") ? MEAN : isWord("last") ? LAST : NONE;
            passWord(way != NONE);
            if (endsSound()) {
                h.way = way;
            }
        }

        private void readLean(House h) {
            step();
            int rung = readNumber(0, MOST_RUNGS - 1);
            int sign = isWord("up") ? 1 : isWord("down") ? -1 : 0;
            passWord(sign != 0);
            int percent = readNumber(0, MOST_LEAN);
            if (endsSound()) {
                h.leans[rung] = sign * percent;
            }
        }

        private void readCast(House h) {
            step();
            int thing = readNumber(0, MOST_THINGS - 1);
            if (endsSound()) {
                h.cast |= 1 << thing;
            }
        }

        private void readRule(House h) {
            needRoom(h.rules, MOST_RULES);
            step();
            int rule = ruleHere();
            passWord(rule != NONE);
            int size = rule == ODDEST ? readNumber(1, 9) : readNumber(0, LAST_NUMBER);
            if (endsSound()) {
                h.addRule(rule, size);
            }
        }

        private int ruleHere() {
            if (isWord("slower")) {
                return SLOWER;
            }
            if (isWord("faster")) {
                return FASTER;
            }
            if (isWord("nearer")) {
                return NEARER;
            }
            if (isWord("farther")) {
                return FARTHER;
            }
            return isWord("odd") ? ODDEST : NONE;
        }

        void readSky(Sky s) {
            s.clear();
            for (int lines = 0; lines < MOST_BYTES && goesOn(); lines++) {
                if (isWord("light")) {
                    readLights(s);
                } else {
                    readSetting(s);
                }
            }
            if (s.lights == 0) {
                note(4);
            }
        }

        private void readLights(Sky s) {
            needRoom(s.lights, MOST_LIGHTS);
            step();
            int bright = readNumber(1, 999);
            int many = readNumber(1, 9);
            if (endsSound()) {
                s.addLights(bright, many);
            }
        }

        private void readSetting(Sky s) {
            if (isWord("speed")) {
                step();
                s.speed = readNumber(0, 1000);
            } else if (isWord("own")) {
                step();
                s.own = readNumber(0, 999);
            } else if (isWord("err")) {
                step();
                s.err = readNumber(0, 50);
            } else if (isWord("limit")) {
                step();
                s.limit = readNumber(1, LAST_NUMBER);
            } else if (isWord("tries")) {
                step();
                s.tries = readNumber(1, MOST_THINGS);
            } else {
                breakOff();
            }
            endsSound();
        }

        private boolean goesOn() {
            return kind != END && fault != 1;
        }

        private void breakOff() {
            if (fault != 1) {
                fault = 1;
                place = at;
            }
        }

        /** Faults come by their places, so that the first noted is the first by place. */
        private void note(int which) {
            if (fault == 0) {
                fault = which;
                place = at;
            }
        }

        private void needRoom(int have, int most) {
            if (have >= most) {
                note(3);
            }
        }

        private int readNumber(int least, int most) {
            if (kind != NUMBER) {
                breakOff();
            }
            if (fault == 1) {
                return least;
            }
            if (value < least || value > most) {
                note(2);
            }
            int number = value;
            step();
            return number;
        }

        private void passWord(boolean fits) {
            if (!fits) {
                breakOff();
            } else if (fault != 1) {
                step();
            }
        }

        private boolean endsSound() {
            if (kind != MARK) {
                breakOff();
            } else if (fault != 1) {
                step();
            }
            return fault == 0;
        }

        private boolean isWord(String word) {
            if (kind != WORD || behind - at != word.length()) {
                return false;
            }
            for (int i = 0; i < word.length(); i++) {
                if (tape[at + i] != word.charAt(i)) {
                    return false;
                }
            }
            return true;
        }

        private void step() {
            while (behind < length && (tape[behind] == 10 || tape[behind] == 32)) {
                behind++;
            }
            at = behind;
            if (behind >= length) {
                kind = END;
            } else if (tape[behind] == ';') {
                kind = MARK;
                behind++;
            } else if (isLetter(tape[behind])) {
                takeLetters();
            } else if (isDigit(tape[behind])) {
                takeDigits();
            } else {
                kind = NO_TOKEN;
            }
        }

        private void takeLetters() {
            while (behind < length && isLetter(tape[behind])) {
                behind++;
            }
            kind = WORD;
        }

        private void takeDigits() {
            value = 0;
            while (behind < length && isDigit(tape[behind])) {
                // A longer row is no token, whatever its value would be.
                value = behind - at < MOST_DIGITS ? value * 10 + tape[behind] - '0' : value;
                behind++;
            }
            kind = behind - at <= MOST_DIGITS ? NUMBER : NO_TOKEN;
        }

        private static boolean isLetter(byte b) {
            return b >= 'a' && b <= 'z';
        }

        private static boolean isDigit(byte b) {
            return b >= '0' && b <= '9';
        }
    }

    /** A catalogue as a house sees it by a year: the ladder, the fars, and the sums of the line through them. */
    private static final class Survey {
        /** Empty ones at first, so that there is always something to look at. */
        Catalogue catalogue = new Catalogue();
        House house = new House();
        int year;
        final int[] scales = new int[MOST_RUNGS];
        final int[] fars = new int[MOST_THINGS];
        private final int[] aside = new int[MOST_THINGS];
        int n;
        private long sumV;
        private long sumD;
        private long sumVV;
        private long sumVD;
        private long sumDD;

        void look(Catalogue c, House h, int by) {
            catalogue = c;
            house = h;
            year = by;
            for (int rung = 0; rung < c.rungs; rung++) {
                climb(rung);
            }
            forget();
            for (int thing = 0; thing < c.things; thing++) {
                int far = h.casts(thing) ? NONE : pick(thing, h.uses, h.way);
                if (far != NONE) {
                    join(thing, far);
                }
            }
            for (int rule = 0; rule < h.rules; rule++) {
                if (h.kinds[rule] == ODDEST) {
                    dropOdd(h.sizes[rule]);
                } else {
                    dropBy(h.kinds[rule], h.sizes[rule]);
                }
            }
        }

        private void climb(int rung) {
            int other = catalogue.on[rung];
            long s = other == NONE ? catalogue.scales[rung] : scaleOn(rung, other);
            if (s == NONE) {
                scales[rung] = NONE;
            } else {
                scales[rung] = (int) Math.min(FARTHEST, s * (100 + house.leans[rung]) / 100);
            }
        }

        private long scaleOn(int rung, int other) {
            long fars = 0;
            long raws = 0;
            for (int thing = 0; thing < catalogue.things; thing++) {
                int raw = catalogue.rawBy(thing, rung, year);
                int far = farBy(thing, other);
                if (raw != 0 && far != NONE && !house.casts(thing)) {
                    fars += far;
                    raws += raw;
                }
            }
            return raws == 0 ? NONE : 1000 * fars / raws;
        }

        int farBy(int thing, int rung) {
            int raw = catalogue.rawBy(thing, rung, year);
            if (raw == 0 || scales[rung] == NONE) {
                return NONE;
            }
            long far = (long) raw * scales[rung] / 1000;
            return far > FARTHEST ? FARTHEST : (int) far;
        }

        int pick(int thing, int uses, int way) {
            int best = NONE;
            int found = 0;
            long together = 0;
            for (int rung = 0; rung < catalogue.rungs; rung++) {
                int far = (uses >> rung & 1) == 1 ? farBy(thing, rung) : NONE;
                if (far == NONE) {
                    continue;
                }
                found++;
                together += far;
                if (best == NONE || goesAhead(rung, best, way)) {
                    best = rung;
                }
            }
            if (found == 0) {
                return NONE;
            }
            return way == MEAN ? (int) (together / found) : farBy(thing, best);
        }

        /** Whether a rung behind another one is taken in its stead. */
        private boolean goesAhead(int rung, int best, int way) {
            int step = catalogue.steps[rung];
            return way == LAST ? step >= catalogue.steps[best] : step < catalogue.steps[best];
        }

        private void forget() {
            for (int thing = 0; thing < MOST_THINGS; thing++) {
                fars[thing] = NONE;
            }
            n = 0;
            sumV = 0;
            sumD = 0;
            sumVV = 0;
            sumVD = 0;
            sumDD = 0;
        }

        void join(int thing, int far) {
            fars[thing] = far;
            addTimes(1, catalogue.speeds[thing], far);
        }

        void drop(int thing) {
            addTimes(-1, catalogue.speeds[thing], fars[thing]);
            fars[thing] = NONE;
        }

        private void addTimes(int times, long v, long d) {
            n += times;
            sumV += times * v;
            sumD += times * d;
            sumVV += times * v * v;
            sumVD += times * v * d;
            sumDD += times * d * d;
        }

        private void dropBy(int kind, int size) {
            for (int thing = 0; thing < catalogue.things; thing++) {
                if (fars[thing] != NONE && isThrown(thing, kind, size)) {
                    drop(thing);
                }
            }
        }

        private boolean isThrown(int thing, int kind, int size) {
            int v = catalogue.speeds[thing];
            int pace = v < 0 ? -v : v;
            switch (kind) {
                case SLOWER:
                    return pace < size;
                case FASTER:
                    return pace > size;
                case NEARER:
                    return fars[thing] < size;
                case FARTHER:
                    return fars[thing] > size;
                default:
                    return false;
            }
        }

        private void dropOdd(int times) {
            for (int i = 0; i < times; i++) {
                int odd = oddOne();
                if (odd == NONE) {
                    return;
                }
                drop(odd);
            }
        }

        /** The fars as they are now, kept until this is called again. */
        int[] setFarsAside() {
            System.arraycopy(fars, 0, aside, 0, MOST_THINGS);
            return aside;
        }

        long slope() {
            return sumDD == 0 ? NO_LINE : 1000 * sumVD / sumDD;
        }

        long turnedSlope() {
            return sumVD == 0 ? NO_LINE : 1000 * sumVV / sumVD;
        }

        long crossedSlope() {
            long below = n * sumDD - sumD * sumD;
            return below == 0 ? NO_LINE : 1000 * (n * sumVD - sumV * sumD) / below;
        }

        /** NO_LINE, too, if the thing has no far. */
        long slopeBut(int thing) {
            if (fars[thing] == NONE) {
                return NO_LINE;
            }
            long d = fars[thing];
            long below = sumDD - d * d;
            return below == 0 ? NO_LINE : 1000 * (sumVD - catalogue.speeds[thing] * d) / below;
        }

        int leftOf(int thing, long h) {
            long left = catalogue.speeds[thing] - h * fars[thing] / 1000;
            if (left > MOST_LEFT) {
                return MOST_LEFT;
            }
            return left < -MOST_LEFT ? -MOST_LEFT : (int) left;
        }

        long spreadBut(int out, long h) {
            long sum = 0;
            for (int thing = 0; thing < catalogue.things; thing++) {
                if (thing != out && fars[thing] != NONE) {
                    long left = leftOf(thing, h);
                    sum += left * left;
                }
            }
            return sum;
        }

        int oddOne() {
            int odd = NONE;
            long least = 0;
            for (int thing = 0; thing < catalogue.things; thing++) {
                long h = slopeBut(thing);
                if (h == NO_LINE) {
                    continue;
                }
                long spread = spreadBut(thing, h);
                if (odd == NONE || spread < least) {
                    least = spread;
                    odd = thing;
                }
            }
            return odd;
        }

        int heavyOne() {
            long h = slope();
            int heavy = NONE;
            long most = -1;
            for (int thing = 0; thing < catalogue.things; thing++) {
                long other = slopeBut(thing);
                if (other != NO_LINE && apart(other, h) > most) {
                    most = apart(other, h);
                    heavy = thing;
                }
            }
            return heavy;
        }

        long lowest() {
            long low = NO_LINE;
            for (int thing = 0; thing < catalogue.things; thing++) {
                long h = slopeBut(thing);
                if (h != NO_LINE && (low == NO_LINE || h < low)) {
                    low = h;
                }
            }
            return low;
        }

        long highest() {
            long high = NO_LINE;
            for (int thing = 0; thing < catalogue.things; thing++) {
                // NO_LINE lies below every slope.
                high = Math.max(high, slopeBut(thing));
            }
            return high;
        }

        /** HIGH less LOW; NONE if there is no LOW. */
        long width() {
            long low = lowest();
            return low == NO_LINE ? NONE : highest() - low;
        }

        boolean spans(long h) {
            long low = lowest();
            return low != NO_LINE && low <= h && h <= highest();
        }
    }

    /** Numbers of things, in order by size. */
    private static final class Ratios {
        int n;
        final int[] things = new int[MOST_THINGS];
        final long[] values = new long[MOST_THINGS];

        void gather(Survey survey, int rung) {
            n = 0;
            Catalogue c = survey.catalogue;
            int others = survey.house.uses & ~(1 << rung);
            for (int thing = 0; thing < c.things; thing++) {
                int raw = c.rawBy(thing, rung, survey.year);
                if (raw == 0 || survey.house.casts(thing)) {
                    continue;
                }
                int far = survey.pick(thing, others, FIRST);
                if (far != NONE) {
                    insert(thing, Math.min(MOST_RATIO, 1000L * far / raw));
                }
            }
        }

        void gatherSpeeds(Survey survey) {
            n = 0;
            Catalogue c = survey.catalogue;
            for (int thing = 0; thing < c.things; thing++) {
                int far = survey.fars[thing];
                if (far > 0) {
                    insert(thing, 1000L * c.speeds[thing] / far);
                }
            }
        }

        /** Things come by their numbers, so that equal ones stay in that order. */
        private void insert(int thing, long value) {
            if (n >= MOST_THINGS) {
                return;
            }
            int at = n;
            while (at > 0 && values[at - 1] > value) {
                values[at] = values[at - 1];
                things[at] = things[at - 1];
                at--;
            }
            values[at] = value;
            things[at] = thing;
            n++;
        }

        private long sumOf(int from, int to) {
            long sum = 0;
            for (int i = from; i < to; i++) {
                sum += values[i];
            }
            return sum;
        }

        int mean(int from, int to) {
            return from >= to ? NONE : (int) (sumOf(from, to) / (to - from));
        }

        /**
         * Two heaps of k and n - k spread the less, the greater the sum of each heap's sum squared by its size is.
         * This is that sum times k * (n - k): at most 24 * 144 * 10^12.
         */
        private long closeness(int k, long within, long all) {
            long rest = all - within;
            return within * within * (n - k) + rest * rest * k;
        }

        int split() {
            long all = sumOf(0, n);
            long within = 0;
            int best = NONE;
            long bestAbove = 0;
            long bestBelow = 1;
            for (int k = 1; k < n; k++) {
                within += values[k - 1];
                long above = closeness(k, within, all);
                long below = (long) k * (n - k);
                if (best == NONE || above * bestBelow > bestAbove * below) {
                    best = k;
                    bestAbove = above;
                    bestBelow = below;
                }
            }
            return best;
        }

        int setsAlike() {
            int k = split();
            if (k == NONE || n > MOST_ALIKE) {
                return NONE;
            }
            long all = sumOf(0, n);
            long splitAbove = closeness(k, sumOf(0, k), all);
            long splitBelow = (long) k * (n - k);
            int found = 0;
            int set = 0;
            int size = 0;
            long within = 0;
            // A set and what is without it spread alike: those without the last thing are looked at, for both.
            for (int i = 1; i < 1 << n - 1; i++) {
                // Each set differs from the one ahead by one thing alone, so that its sum needs no loop.
                int turned = lowestBit(i);
                set ^= 1 << turned;
                int sign = (set >> turned & 1) == 1 ? 1 : -1;
                size += sign;
                within += sign * values[turned];
                if (closeness(size, within, all) * splitBelow >= splitAbove * size * (n - size)) {
                    found += 2;
                }
            }
            return found;
        }

        private static int lowestBit(int bits) {
            int at = 0;
            while (at < MOST_ALIKE && (bits >> at & 1) == 0) {
                at++;
            }
            return at;
        }

        /** Things (bits) with more than f of 100 of the middle one. */
        int above(int f) {
            int bits = 0;
            for (int i = 0; i < n; i++) {
                if (values[i] * 100 > f * values[(n - 1) / 2]) {
                    bits |= 1 << things[i];
                }
            }
            return bits;
        }
    }

    /** H of a catalogue and a house, year by year. */
    private static final class Chronicle {
        final long[] slopes = new long[YEARS];
        private final boolean[] news = new boolean[YEARS];

        void fill(Survey survey, Catalogue c, House h) {
            markNews(c);
            for (int year = 0; year < YEARS; year++) {
                if (year == 0 || news[year]) {
                    survey.look(c, h, year);
                }
                slopes[year] = survey.slope();
            }
        }

        /** Without a new entry a year sees what the one ahead of it saw. */
        private void markNews(Catalogue c) {
            for (int year = 0; year < YEARS; year++) {
                news[year] = false;
            }
            for (int i = 0; i < c.raws.length; i++) {
                if (c.raws[i] != 0 && isYear(c.years[i])) {
                    news[c.years[i]] = true;
                }
            }
        }
    }

    /** All orders in which fars could stand by speeds. */
    private static final class Orders {
        private final long[] speeds = new long[MOST_ORDERED];
        private final long[] fars = new long[MOST_ORDERED];
        private int n;
        private long goal;

        int atLeastAsTold(Survey survey) {
            n = 0;
            goal = 0;
            for (int thing = 0; thing < survey.catalogue.things && n < MOST_ORDERED; thing++) {
                if (survey.fars[thing] != NONE) {
                    speeds[n] = survey.catalogue.speeds[thing];
                    fars[n] = survey.fars[thing];
                    goal += speeds[n] * fars[n];
                    n++;
                }
            }
            return countFrom(this, 0, 0, 0);
        }

        /** The depth is how many speeds have a far by now, so at most MOST_ORDERED. */
        private static int countFrom(Orders row, int depth, int taken, long sum) {
            if (depth >= row.n || depth >= MOST_ORDERED) {
                return sum >= row.goal ? 1 : 0;
            }
            int found = 0;
            for (int i = 0; i < row.n; i++) {
                if ((taken >> i & 1) == 0) {
                    found += countFrom(row, depth + 1, taken | 1 << i, sum + row.speeds[depth] * row.fars[i]);
                }
            }
            return found;
        }
    }
}
