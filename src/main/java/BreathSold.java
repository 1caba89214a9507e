import java.util.Arrays;

/** Breaths in bottles: sold, joined, broken, corked, leaking and bursting by days. */
public final class BreathSold {
    public static final int NONE = -1, BAD = -2, NOT = -3, FULL = -4;

    private static final int BOTTLES = 8, VOICES = 8, OWNERS = 6, DAYS = 40;
    private static final int TEXTS = 2, BOTTLE_BYTES = 47, SONG_BYTES = 8, BYTES_A_BOTTLE = 6;
    private static final int ACTS = 16, HOT_DAYS = 8, WEIGHINGS = 8, MOST_WEIGHED = 999;
    private static final int SALE = 0, JOIN = 1, BREAK = 2, CORKED = 3, ITEMS_AN_ACT = 4;
    private static final int BEST_CORK = 9, CORKS = 3, FIRST_BURST = 60, MOST_BURST = 200;
    private static final int HEAT_DAYS = 10, SIXTEENTHS = 16;
    private static final int SHEETS = 4, FORMS = 3, ITEMS = 60, BYTE_FORM = 0, SHORT_FORM = 1;
    private static final int NULL_FOUND = 1, INDEX_FOUND = 2, CAST_FOUND = 3, STORE_FOUND = 4, SIZE_FOUND = 5;

    private final Text bottleText = new Text(BOTTLE_BYTES);
    private final Text songText = new Text(SONG_BYTES);
    private final Told told = new Told();
    private final Singer singer = new Singer();
    private final Weighings weighings = new Weighings();
    private final Sheets sheets = new Sheets();
    private final State now = new State();
    private final State trial = new State();
    /** The state ahead of each day of heat(), and behind the last one: each depth keeps its own. */
    private final State[] heatStates = new State[HEAT_DAYS + 1];
    /** For weigh(): what each bottle holds without each act, by 8 act + bottle. */
    private final int[] heldWithout = new int[ACTS * BOTTLES];
    private boolean nowIsStale = true;
    /** The day for which corksFound was sought; NONE: it must be sought anew. */
    private int corksDay = NONE;
    /** The corked bottles, 0 as the highest of 8 bits; NONE: no corks help. */
    private int corksFound = NONE;
    private int latestFinding = 0;

    public BreathSold() {
        for (int d = 0; d < heatStates.length; d++) {
            heatStates[d] = new State();
        }
    }

    // ---- bottles, the song, acts

    public int type(int text, int b) {
        if (!isWithin(text, TEXTS) || !isWithin(b, 256)) {
            return BAD;
        }
        Text t = textOf(text);
        if (t.size >= t.most) {
            return FULL;
        }
        t.bytes[t.size] = b;
        t.size++;
        takeTexts();
        return t.size;
    }

    public int wipe(int text) {
        if (!isWithin(text, TEXTS)) {
            return BAD;
        }
        Text t = textOf(text);
        int had = t.size;
        t.size = 0;
        takeTexts();
        return had;
    }

    public int undo(int text) {
        if (!isWithin(text, TEXTS)) {
            return BAD;
        }
        Text t = textOf(text);
        if (t.size == 0) {
            return NOT;
        }
        t.size--;
        takeTexts();
        return t.size;
    }

    public int fault(int text) {
        if (!isWithin(text, TEXTS)) {
            return BAD;
        }
        return text == 0 ? bottleText.faultAsBottles() : songText.faultAsSong();
    }

    public int bottle(int bottle, int what) {
        if (!isBottle(bottle)) {
            return BAD;
        }
        switch (what) {
            case 0:
                return told.stock.voice[bottle];
            case 1:
                return told.stock.much[bottle];
            case 2:
                return told.stock.cork[bottle];
            case 3:
                return told.stock.south >> bottle & 1;
            default:
                return BAD;
        }
    }

    public int note(int i) {
        if (!isWithin(i, SONG_BYTES)) {
            return BAD;
        }
        return i < singer.size ? singer.letters[i] : NONE;
    }

    public int burst(int v) {
        if (v < 1 || v > MOST_BURST) {
            return BAD;
        }
        int was = told.burst;
        told.burst = v;
        forgetDays();
        return was;
    }

    public int hot(int day) {
        if (!isWithin(day, DAYS)) {
            return BAD;
        }
        if (told.hotDays >= HOT_DAYS) {
            return FULL;
        }
        told.hotDay[told.hotDays] = day;
        told.hotDays++;
        forgetDays();
        return told.hotDays;
    }

    public int act(int day, int kind, int bottle, int to) {
        if (!mayBeAct(day, kind, bottle, to)) {
            return BAD;
        }
        Acts acts = told.acts;
        int a = acts.size;
        if (a >= ACTS) {
            return FULL;
        }
        acts.day[a] = day;
        acts.kind[a] = kind;
        acts.bottle[a] = bottle;
        acts.to[a] = to;
        acts.size++;
        forgetDays();
        return acts.size;
    }

    public int back(int what) {
        if (!isWithin(what, 2)) {
            return BAD;
        }
        int had = what == 0 ? told.acts.size : told.hotDays;
        if (had == 0) {
            return NOT;
        }
        if (what == 0) {
            told.acts.size--;
        } else {
            told.hotDays--;
        }
        forgetDays();
        return had - 1;
    }

    public int read(int s) {
        if (!isWithin(s, SHEETS)) {
            return BAD;
        }
        if (sheets.form[s] == NONE) {
            return find(NULL_FOUND);
        }
        int[] items = sheets.items[s];
        int whole = sheets.size[s] / ITEMS_AN_ACT;
        for (int a = 0; a < whole; a++) {
            int at = ITEMS_AN_ACT * a;
            if (act(items[at], items[at + 1], items[at + 2], items[at + 3]) < 0) {
                return a;
            }
        }
        return whole;
    }

    // ---- days

    public int holds(int day, int bottle, int voice) {
        if (!isWithin(day, DAYS) || !isBottle(bottle) || voice != NONE && !isWithin(voice, VOICES)) {
            return BAD;
        }
        State s = behind(day);
        return voice == NONE ? s.allIn(bottle) : s.muchOf(bottle, voice);
    }

    public int who(int day, int bottle) {
        if (!isWithin(day, DAYS) || !isBottle(bottle)) {
            return BAD;
        }
        return behind(day).owner[bottle];
    }

    public int whole(int day, int bottle) {
        if (!isWithin(day, DAYS) || !isBottle(bottle)) {
            return BAD;
        }
        return behind(day).isWhole(bottle) ? 1 : 0;
    }

    public int has(int day, int owner) {
        if (!isWithin(day, DAYS) || !isWithin(owner, OWNERS)) {
            return BAD;
        }
        return behind(day).voicesWith(owner);
    }

    public int heard(int day, int voice) {
        if (!isWithin(day, DAYS) || !isWithin(voice, VOICES)) {
            return BAD;
        }
        return behind(day).heardOf[voice];
    }

    public int spilled(int day, int voice) {
        if (!isWithin(day, DAYS) || !isWithin(voice, VOICES)) {
            return BAD;
        }
        return behind(day).spilledOf[voice];
    }

    public int leaked(int day) {
        if (!isWithin(day, DAYS)) {
            return BAD;
        }
        return behind(day).leakedInAll;
    }

    public int lost(int day) {
        if (!isWithin(day, DAYS)) {
            return BAD;
        }
        return told.stock.voices() & ~behind(day).voicesWith(NONE);
    }

    public int works(int act) {
        if (!isWithin(act, told.acts.size)) {
            return BAD;
        }
        return behind(told.acts.day[act]).worked >> act & 1;
    }

    // ---- songs

    public int sing(int day, int i) {
        if (!isWithin(day, DAYS) || i != NONE && !isWithin(i, SONG_BYTES)) {
            return BAD;
        }
        singer.seekRow(behind(day));
        if (i == NONE || singer.spill == NONE) {
            return singer.spill;
        }
        return i < singer.size ? singer.row[i] : NONE;
    }

    public int corks(int day, int i) {
        if (!isWithin(day, DAYS) || i != NONE && !isWithin(i, CORKS)) {
            return BAD;
        }
        if (corksDay != day) {
            corksFound = seekCorks(day);
            corksDay = day;
        }
        if (corksFound == NONE) {
            return NONE;
        }
        return i == NONE ? Integer.bitCount(corksFound) : corkedAt(i);
    }

    public int most(int day, int voice) {
        if (!isWithin(day, DAYS) || !isWithin(voice, VOICES)) {
            return BAD;
        }
        State s = behind(day);
        int best = NONE;
        int much = 0;
        for (int b = 0; b < told.stock.size; b++) {
            if (s.muchOf(b, voice) > much) {
                best = b;
                much = s.muchOf(b, voice);
            }
        }
        return best;
    }

    // ---- weighed, heat, markets

    public int weighed(int day, int bottle, int much) {
        if (!isWithin(day, DAYS) || !isWithin(bottle, BOTTLES) || !isWithin(much, MOST_WEIGHED + 1)) {
            return BAD;
        }
        int w = weighings.size;
        if (w >= WEIGHINGS) {
            return FULL;
        }
        weighings.day[w] = day;
        weighings.bottle[w] = bottle;
        weighings.much[w] = much;
        weighings.size++;
        return weighings.size;
    }

    public int forget() {
        int had = weighings.size;
        weighings.size = 0;
        return had;
    }

    public int hid() {
        int bits = 0;
        for (int a = 0; a < told.acts.size; a++) {
            if (comesOut(a, 0, 0)) {
                bits |= 1 << a;
            }
        }
        return bits;
    }

    public int swapped(int what) {
        if (!isWithin(what, 2)) {
            return BAD;
        }
        int pairs = 0;
        int least = NONE;
        for (int a = 0; a < told.stock.size; a++) {
            for (int b = a + 1; b < told.stock.size; b++) {
                if (!comesOut(NONE, a, b)) {
                    continue;
                }
                pairs++;
                if (least == NONE) {
                    least = BOTTLES * a + b;
                }
            }
        }
        return what == 0 ? pairs : least;
    }

    public int weigh(int day) {
        if (!isWithin(day, DAYS)) {
            return BAD;
        }
        int bits = hid();
        holdWithoutEach(bits, day);
        int best = NONE;
        int fewest = 0;
        for (int b = 0; b < told.stock.size; b++) {
            int alike = mostAlike(bits, b);
            if (best == NONE || alike < fewest) {
                best = b;
                fewest = alike;
            }
        }
        return best;
    }

    public long heat(int c, int bottle, int day, int what) {
        if (!isWithin(c, SIXTEENTHS + 1) || !isBottle(bottle) || !isWithin(day, HEAT_DAYS) || !isWithin(what, 2)) {
            return Long.MIN_VALUE - BAD;
        }
        heatStates[0].begin(told.stock, 0, 0);
        long above = wholeWays(heatStates, told, 0, day, c, bottle);
        long below = 1L << 4 * (day + 1);
        if (above == 0) {
            below = 1;
        }
        // What is below is a power of 2, so halving is all that lowest terms need.
        int halvings = Math.min(Long.numberOfTrailingZeros(above), Long.numberOfTrailingZeros(below));
        return (what == 0 ? above : below) >> halvings;
    }

    public int market(int seed, int day, int bottle) {
        if (!isWithin(day, DAYS) || bottle != NONE && !isBottle(bottle)) {
            return BAD;
        }
        int bottles = told.stock.size;
        int working = 0;
        int lots = seed;
        trial.begin(told.stock, 0, 0);
        for (int d = 0; d <= day && bottles > 0; d++) {
            // A sale touches nothing that leaks or bursts, so it may stand at the day's end.
            trial.passDay(told, NONE);
            lots = nextSeed(lots);
            int sold = (lots >>> 16) % bottles;
            lots = nextSeed(lots);
            if (trial.doAct(SALE, sold, (lots >>> 16) % OWNERS)) {
                working++;
            }
        }
        return bottle == NONE ? working : trial.owner[bottle];
    }

    // ---- sheets

    public int sheet(int s, int form, int n) {
        if (!isWithin(s, SHEETS) || !isWithin(form, FORMS) || n > ITEMS) {
            return BAD;
        }
        if (n < 0) {
            return find(SIZE_FOUND);
        }
        sheets.form[s] = form;
        sheets.size[s] = n;
        Arrays.fill(sheets.items[s], 0);
        return n;
    }

    public int lose(int s) {
        if (!isWithin(s, SHEETS)) {
            return BAD;
        }
        if (sheets.form[s] == NONE) {
            return find(NULL_FOUND);
        }
        int had = sheets.size[s];
        sheets.form[s] = NONE;
        sheets.size[s] = 0;
        return had;
    }

    public int put(int s, int form, int i, int v) {
        if (!isWithin(s, SHEETS) || !isWithin(form, FORMS)) {
            return BAD;
        }
        int finding = sheets.findingAt(s, form, i);
        if (finding != 0) {
            return find(finding);
        }
        sheets.setItem(s, i, v);
        return 1;
    }

    public int get(int s, int form, int i) {
        if (!isWithin(s, SHEETS) || !isWithin(form, FORMS)) {
            return Integer.MIN_VALUE;
        }
        int finding = sheets.findingAt(s, form, i);
        if (finding != 0) {
            find(finding);
            return Integer.MIN_VALUE;
        }
        return sheets.items[s][i];
    }

    public int copy(int s, int i, int t, int j, int n) {
        if (!isWithin(s, SHEETS) || !isWithin(t, SHEETS)) {
            return BAD;
        }
        if (sheets.form[s] == NONE || sheets.form[t] == NONE) {
            return find(NULL_FOUND);
        }
        if (sheets.form[s] != sheets.form[t]) {
            return find(STORE_FOUND);
        }
        if (!sheets.hasItems(s, i, n) || !sheets.hasItems(t, j, n)) {
            return find(INDEX_FOUND);
        }
        System.arraycopy(sheets.items[s], i, sheets.items[t], j, n);
        return 1;
    }

    public int write(int bottle, int s) {
        if (!isBottle(bottle) || !isWithin(s, SHEETS)) {
            return BAD;
        }
        if (sheets.form[s] == NONE) {
            return find(NULL_FOUND);
        }
        int days = Math.min(sheets.size[s], DAYS);
        for (int d = 0; d < days; d++) {
            sheets.setItem(s, d, behind(d).allIn(bottle));
        }
        return days;
    }

    public int count(int what) {
        switch (what) {
            case 0:
                return told.stock.size;
            case 1:
                return singer.size;
            case 2:
                return bottleText.size;
            case 3:
                return songText.size;
            case 4:
                return told.acts.size;
            case 5:
                return Integer.bitCount(behind(DAYS - 1).worked);
            case 6:
                return told.hotDays;
            case 7:
                return weighings.size;
            case 8:
                return latestFinding;
            default:
                return BAD;
        }
    }

    public long digest() {
        long h = 17;
        for (int what = 0; what <= 7; what++) {
            h = 31 * h + count(what);
        }
        for (int text = 0; text < TEXTS; text++) {
            h = 31 * h + fault(text);
        }
        for (int b = 0; b < told.stock.size; b++) {
            h = mixBottle(h, b);
        }
        for (int i = 0; i < singer.size; i++) {
            h = 31 * h + note(i);
        }
        for (int v = 0; v < VOICES; v++) {
            h = 31 * h + heard(39, v);
            h = 31 * h + spilled(39, v);
            h = 31 * h + most(5, v);
        }
        for (int owner = 0; owner < OWNERS; owner++) {
            h = 31 * h + has(9, owner);
        }
        for (int i = 0; i < 3; i++) {
            int day = i == 0 ? 0 : i == 1 ? 5 : 39;
            h = 31 * h + leaked(day);
            h = 31 * h + lost(day);
            h = 31 * h + sing(day, NONE);
            h = 31 * h + sing(day, 0);
            h = 31 * h + corks(day, NONE);
            h = 31 * h + corks(day, 0);
            h = 31 * h + weigh(day);
        }
        for (int a = 0; a < told.acts.size; a++) {
            h = 31 * h + works(a);
        }
        h = 31 * h + hid();
        h = 31 * h + swapped(0);
        h = 31 * h + swapped(1);
        return 31 * h + market(7, 20, NONE);
    }

    private long mixBottle(long before, int b) {
        long h = before;
        for (int what = 0; what <= 3; what++) {
            h = 31 * h + bottle(b, what);
        }
        h = 31 * h + holds(5, b, NONE);
        h = 31 * h + holds(39, b, NONE);
        h = 31 * h + who(9, b);
        h = 31 * h + whole(39, b);
        h = 31 * h + heat(5, b, 6, 0);
        h = 31 * h + heat(5, b, 6, 1);
        return 31 * h + market(7, 20, b);
    }

    private static boolean isWithin(int i, int bound) {
        return i >= 0 && i < bound;
    }

    private boolean isBottle(int bottle) {
        return isWithin(bottle, told.stock.size);
    }

    private Text textOf(int text) {
        return text == 0 ? bottleText : songText;
    }

    private void takeTexts() {
        told.stock.takeFrom(bottleText);
        singer.takeFrom(songText);
        forgetDays();
    }

    private void forgetDays() {
        nowIsStale = true;
        corksDay = NONE;
    }

    private int find(int finding) {
        latestFinding = finding;
        return -10 - finding;
    }

    private static boolean mayBeAct(int day, int kind, int bottle, int to) {
        if (!isWithin(day, DAYS) || !isWithin(kind, CORKED + 1) || !isWithin(bottle, BOTTLES)) {
            return false;
        }
        return isWithin(to, kind == SALE ? OWNERS : kind == JOIN ? BOTTLES : 1);
    }

    /** Goes on from the day that was asked last, where it can, as days are mostly asked in order. */
    private State behind(int day) {
        if (nowIsStale || now.day > day) {
            now.begin(told.stock, 0, 0);
            nowIsStale = false;
        }
        for (int d = now.day + 1; d <= day; d++) {
            now.passDay(told, NONE);
        }
        return now;
    }

    /** Of as many bottles the least row has the greatest bits, as bottle 0 is the highest. */
    private int seekCorks(int day) {
        for (int corked = 0; corked <= CORKS; corked++) {
            for (int bits = 255; bits >= 0; bits--) {
                if (Integer.bitCount(bits) == corked && areBottles(bits) && singsCorked(bits, day)) {
                    return bits;
                }
            }
        }
        return NONE;
    }

    private boolean areBottles(int bits) {
        return (bits & 255 >> told.stock.size) == 0;
    }

    private static boolean isAmong(int bits, int bottle) {
        return (bits >> BOTTLES - 1 - bottle & 1) == 1;
    }

    private boolean singsCorked(int bits, int day) {
        trial.begin(told.stock, 0, 0);
        for (int b = 0; b < BOTTLES; b++) {
            if (isAmong(bits, b)) {
                trial.cork[b] = BEST_CORK;
            }
        }
        for (int d = 0; d <= day; d++) {
            trial.passDay(told, NONE);
        }
        singer.seekLeast(trial);
        return singer.spill != NONE;
    }

    private int corkedAt(int i) {
        int ahead = 0;
        for (int b = 0; b < BOTTLES; b++) {
            if (isAmong(corksFound, b) && ahead == i) {
                return b;
            }
            ahead += isAmong(corksFound, b) ? 1 : 0;
        }
        return NONE;
    }

    /** Whether all that was weighed is so without an act (or NONE), with bottles a and b in each other's place. */
    private boolean comesOut(int without, int a, int b) {
        int last = weighings.lastDay();
        trial.begin(told.stock, a, b);
        for (int d = 0; d <= last; d++) {
            trial.passDay(told, without);
            if (!weighings.agreeWith(trial)) {
                return false;
            }
        }
        return true;
    }

    private void holdWithoutEach(int bits, int day) {
        for (int a = 0; a < told.acts.size; a++) {
            if ((bits >> a & 1) == 0) {
                continue;
            }
            trial.begin(told.stock, 0, 0);
            for (int d = 0; d <= day; d++) {
                trial.passDay(told, a);
            }
            for (int b = 0; b < told.stock.size; b++) {
                heldWithout[BOTTLES * a + b] = trial.allIn(b);
            }
        }
    }

    private int mostAlike(int bits, int bottle) {
        int greatest = 0;
        for (int a = 0; a < ACTS; a++) {
            int alike = 0;
            for (int other = 0; other < ACTS; other++) {
                boolean both = (bits >> a & bits >> other & 1) == 1;
                if (both && heldWithout[BOTTLES * a + bottle] == heldWithout[BOTTLES * other + bottle]) {
                    alike++;
                }
            }
            greatest = Math.max(greatest, alike);
        }
        return greatest;
    }

    /** In how many of 16 ways a day, from this day to the last one, the bottle stays whole. */
    private static long wholeWays(State[] states, Told told, int day, int last, int c, int bottle) {
        if (!isWithin(day, states.length) || !states[day].isWhole(bottle)) {
            return 0;
        }
        if (day > last || day + 1 >= states.length) {
            return 1;
        }
        State next = states[day + 1];
        next.become(states[day]);
        next.passUntilHeat(told.acts, NONE);
        int ripe = next.ripeBottles(told.burst);
        // Where nothing would burst, a hot day and a cool one are the same.
        if (ripe == 0) {
            return SIXTEENTHS * wholeWays(states, told, day + 1, last, c, bottle);
        }
        long ways = (SIXTEENTHS - c) * wholeWays(states, told, day + 1, last, c, bottle);
        next.burstAll(ripe);
        return ways + c * wholeWays(states, told, day + 1, last, c, bottle);
    }

    private static int nextSeed(int seed) {
        return 1103515245 * seed + 12345;
    }

    /** A text as it was typed. */
    private static final class Text {
        final int[] bytes = new int[BOTTLE_BYTES];
        final int most;
        int size = 0;

        Text(int most) {
            this.most = Math.min(most, BOTTLE_BYTES);
        }

        /** There is no room for a ninth bottle, so none is looked for. */
        int faultAsBottles() {
            for (int i = 0; i < size; i++) {
                if (!mayStandAt(i)) {
                    return i;
                }
            }
            return size == 0 || size % BYTES_A_BOTTLE == BYTES_A_BOTTLE - 1 ? NONE : size;
        }

        private boolean mayStandAt(int i) {
            int b = bytes[i];
            switch (i % BYTES_A_BOTTLE) {
                case 0:
                    return isLetter(b);
                case 1:
                case 3:
                    return isFigure(b);
                case 2:
                    return isFigure(b) && (b != '0' || i < 1 || bytes[i - 1] != '0');
                case 4:
                    return b == 'n' || b == 's';
                default:
                    return b == ';';
            }
        }

        int faultAsSong() {
            for (int i = 0; i < size; i++) {
                if (!isLetter(bytes[i])) {
                    return i;
                }
            }
            return NONE;
        }

        private static boolean isLetter(int b) {
            return b >= 'a' && b <= 'h';
        }

        private static boolean isFigure(int b) {
            return b >= '0' && b <= '9';
        }
    }

    /** The bottles as they are at first. */
    private static final class Stock {
        final int[] voice = new int[BOTTLES];
        final int[] much = new int[BOTTLES];
        final int[] cork = new int[BOTTLES];
        int south = 0;
        int size = 0;

        void takeFrom(Text t) {
            size = t.faultAsBottles() == NONE ? Math.min(BOTTLES, (t.size + 1) / BYTES_A_BOTTLE) : 0;
            south = 0;
            for (int b = 0; b < size; b++) {
                int at = BYTES_A_BOTTLE * b;
                voice[b] = t.bytes[at] - 'a';
                much[b] = 10 * (t.bytes[at + 1] - '0') + t.bytes[at + 2] - '0';
                cork[b] = t.bytes[at + 3] - '0';
                if (t.bytes[at + 4] == 's') {
                    south |= 1 << b;
                }
            }
        }

        int voices() {
            int bits = 0;
            for (int b = 0; b < size; b++) {
                bits |= 1 << voice[b];
            }
            return bits;
        }
    }

    private static final class Acts {
        final int[] day = new int[ACTS];
        final int[] kind = new int[ACTS];
        final int[] bottle = new int[ACTS];
        final int[] to = new int[ACTS];
        int size = 0;
    }

    /** All that was told of bottles and days. */
    private static final class Told {
        final Stock stock = new Stock();
        final Acts acts = new Acts();
        final int[] hotDay = new int[HOT_DAYS];
        int hotDays = 0;
        int burst = FIRST_BURST;

        boolean isHot(int day) {
            for (int i = 0; i < hotDays; i++) {
                if (hotDay[i] == day) {
                    return true;
                }
            }
            return false;
        }
    }

    /**
     * How all stands behind a day. What each bottle had at first is a breath that joins carry from bottle to bottle;
     * in one bottle no two breaths are of one voice, as leaks are cut voice by voice.
     */
    private static final class State {
        final int[] voice = new int[BOTTLES];
        final int[] amount = new int[BOTTLES];
        final int[] place = new int[BOTTLES];
        final int[] cork = new int[BOTTLES];
        final int[] owner = new int[BOTTLES];
        final int[] heardOf = new int[VOICES];
        final int[] spilledOf = new int[VOICES];
        int size = 0;
        int south = 0;
        int wholeBottles = 0;
        int leakedInAll = 0;
        int worked = 0;
        int day = NONE;

        /** Ahead of day 0, with bottles a and b in each other's place. */
        void begin(Stock stock, int a, int b) {
            size = stock.size;
            south = 0;
            for (int i = 0; i < size; i++) {
                int from = i == a ? b : i == b ? a : i;
                voice[i] = stock.voice[from];
                amount[i] = stock.much[from];
                place[i] = i;
                cork[i] = stock.cork[from];
                owner[i] = 0;
                south |= (stock.south >> from & 1) << i;
            }
            Arrays.fill(heardOf, 0);
            Arrays.fill(spilledOf, 0);
            wholeBottles = (1 << size) - 1;
            leakedInAll = 0;
            worked = 0;
            day = NONE;
        }

        void become(State o) {
            System.arraycopy(o.voice, 0, voice, 0, BOTTLES);
            System.arraycopy(o.amount, 0, amount, 0, BOTTLES);
            System.arraycopy(o.place, 0, place, 0, BOTTLES);
            System.arraycopy(o.cork, 0, cork, 0, BOTTLES);
            System.arraycopy(o.owner, 0, owner, 0, BOTTLES);
            System.arraycopy(o.heardOf, 0, heardOf, 0, VOICES);
            System.arraycopy(o.spilledOf, 0, spilledOf, 0, VOICES);
            size = o.size;
            south = o.south;
            wholeBottles = o.wholeBottles;
            leakedInAll = o.leakedInAll;
            worked = o.worked;
            day = o.day;
        }

        void passDay(Told told, int without) {
            passUntilHeat(told.acts, without);
            if (told.isHot(day)) {
                burstAll(ripeBottles(told.burst));
            }
        }

        void passUntilHeat(Acts acts, int without) {
            day++;
            for (int a = 0; a < acts.size; a++) {
                if (acts.day[a] == day && a != without && doAct(acts.kind[a], acts.bottle[a], acts.to[a])) {
                    worked |= 1 << a;
                }
            }
            leak();
        }

        /** Answers whether it did something. */
        boolean doAct(int kind, int bottle, int to) {
            if (!isWithin(bottle, size)) {
                return false;
            }
            boolean does = false;
            switch (kind) {
                case SALE:
                    does = owner[bottle] != to;
                    owner[bottle] = to;
                    break;
                case JOIN:
                    does = bottle != to && isWhole(bottle) && isWhole(to);
                    if (does) {
                        pourInto(bottle, to);
                    }
                    break;
                case BREAK:
                    does = isWhole(bottle);
                    letGo(bottle, heardOf);
                    break;
                case CORKED:
                    does = cork[bottle] != BEST_CORK;
                    cork[bottle] = BEST_CORK;
                    break;
                default:
                    break;
            }
            return does;
        }

        private void pourInto(int from, int to) {
            for (int i = 0; i < size; i++) {
                if (place[i] != from) {
                    continue;
                }
                place[i] = to;
                for (int j = 0; j < size; j++) {
                    if (j != i && place[j] == to && voice[j] == voice[i]) {
                        amount[i] += amount[j];
                        amount[j] = 0;
                    }
                }
            }
        }

        private void letGo(int bottle, int[] into) {
            wholeBottles &= ~(1 << bottle);
            for (int i = 0; i < size; i++) {
                if (place[i] == bottle) {
                    into[voice[i]] += amount[i];
                    amount[i] = 0;
                }
            }
        }

        /** What is not whole is empty, so it need not be told apart. */
        private void leak() {
            for (int i = 0; i < size; i++) {
                if (amount[i] == 0) {
                    continue;
                }
                int closed = cork[place[i]];
                int gone = amount[i] * (10 - closed) / 100 + (closed == 0 ? 1 : 0);
                amount[i] -= gone;
                leakedInAll += gone;
            }
        }

        /** The bottles that would burst, were it hot, as bits. */
        int ripeBottles(int burst) {
            int bits = 0;
            for (int b = 0; b < size; b++) {
                if ((south >> b & 1) == 1 && allIn(b) >= burst) {
                    bits |= 1 << b;
                }
            }
            return bits;
        }

        void burstAll(int bits) {
            for (int b = 0; b < size; b++) {
                if ((bits >> b & 1) == 1) {
                    letGo(b, spilledOf);
                }
            }
        }

        boolean isWhole(int bottle) {
            return bottle >= 0 && bottle < size && (wholeBottles >> bottle & 1) == 1;
        }

        int muchOf(int bottle, int ofVoice) {
            int much = 0;
            for (int i = 0; i < size; i++) {
                if (place[i] == bottle && voice[i] == ofVoice) {
                    much += amount[i];
                }
            }
            return much;
        }

        int allIn(int bottle) {
            int much = 0;
            for (int i = 0; i < size; i++) {
                if (place[i] == bottle) {
                    much += amount[i];
                }
            }
            return much;
        }

        /** The voices of which an owner (NONE: any owner) has some, as bits. */
        int voicesWith(int ofOwner) {
            int bits = 0;
            for (int i = 0; i < size; i++) {
                if (amount[i] > 0 && (ofOwner == NONE || owner[place[i]] == ofOwner)) {
                    bits |= 1 << voice[i];
                }
            }
            return bits;
        }
    }

    /** Seeks the row of bottles by which the song is heard. */
    private static final class Singer {
        private static final int NEVER = 1000000, UNKNOWN = -1;

        final int[] letters = new int[SONG_BYTES];
        final int[] row = new int[SONG_BYTES];
        /** What else is in a bottle, by 8 letter + bottle; NEVER: nothing of the letter's voice. */
        private final int[] others = new int[SONG_BYTES * BOTTLES];
        /** The least that the letters still to come spill, by the bits of the bottles used. */
        private final int[] leastBehind = new int[1 << BOTTLES];
        int size = 0;
        /** What the row spills; NONE: there is no row. */
        int spill = NONE;

        void takeFrom(Text t) {
            size = t.faultAsSong() == NONE ? Math.min(SONG_BYTES, t.size) : 0;
            for (int i = 0; i < size; i++) {
                letters[i] = t.bytes[i] - 'a';
            }
        }

        void seekLeast(State s) {
            spill = NONE;
            if (size > s.size || (voices() & ~s.voicesWith(NONE)) != 0) {
                return;
            }
            for (int i = 0; i < size; i++) {
                for (int b = 0; b < BOTTLES; b++) {
                    int much = s.muchOf(b, letters[i]);
                    others[BOTTLES * i + b] = much > 0 ? s.allIn(b) - much : NEVER;
                }
            }
            Arrays.fill(leastBehind, UNKNOWN);
            int least = leastFrom(this, 0, 0);
            spill = least < NEVER ? least : NONE;
        }

        void seekRow(State s) {
            seekLeast(s);
            int used = 0;
            for (int i = 0; i < size && spill != NONE; i++) {
                row[i] = leastNext(used, i);
                used |= 1 << row[i];
            }
        }

        private int voices() {
            int bits = 0;
            for (int i = 0; i < size; i++) {
                bits |= 1 << letters[i];
            }
            return bits;
        }

        /** Letters are 8 at most, so it goes 8 deep at most. */
        private static int leastFrom(Singer s, int used, int i) {
            if (i >= s.size) {
                return 0;
            }
            if (s.leastBehind[used] != UNKNOWN) {
                return s.leastBehind[used];
            }
            int least = NEVER;
            for (int b = 0; b < BOTTLES; b++) {
                if (s.isFree(used, i, b)) {
                    least = Math.min(least, s.others[BOTTLES * i + b] + leastFrom(s, used | 1 << b, i + 1));
                }
            }
            s.leastBehind[used] = least;
            return least;
        }

        /** The least bottle by which the least is still spilled. */
        private int leastNext(int used, int i) {
            int least = leastFrom(this, used, i);
            for (int b = 0; b < BOTTLES; b++) {
                if (isFree(used, i, b) && others[BOTTLES * i + b] + leastFrom(this, used | 1 << b, i + 1) == least) {
                    return b;
                }
            }
            return 0;
        }

        private boolean isFree(int used, int i, int b) {
            return (used >> b & 1) == 0 && others[BOTTLES * i + b] < NEVER;
        }
    }

    private static final class Weighings {
        final int[] day = new int[WEIGHINGS];
        final int[] bottle = new int[WEIGHINGS];
        final int[] much = new int[WEIGHINGS];
        int size = 0;

        int lastDay() {
            int last = NONE;
            for (int w = 0; w < size; w++) {
                last = Math.max(last, day[w]);
            }
            return last;
        }

        /** Looks at what was weighed behind the state's own day. */
        boolean agreeWith(State s) {
            for (int w = 0; w < size; w++) {
                if (day[w] == s.day && (bottle[w] >= s.size || s.allIn(bottle[w]) != much[w])) {
                    return false;
                }
            }
            return true;
        }
    }

    private static final class Sheets {
        final int[][] items = new int[SHEETS][ITEMS];
        /** NONE: it is lost. */
        final int[] form = new int[SHEETS];
        final int[] size = new int[SHEETS];

        Sheets() {
            Arrays.fill(form, NONE);
        }

        /** What keeps item i from being treated as of a form; 0: nothing. */
        int findingAt(int s, int asForm, int i) {
            if (form[s] == NONE) {
                return NULL_FOUND;
            }
            if (form[s] != asForm) {
                return CAST_FOUND;
            }
            return isWithin(i, size[s]) ? 0 : INDEX_FOUND;
        }

        boolean hasItems(int s, int from, int n) {
            return from >= 0 && n >= 0 && n <= size[s] && from <= size[s] - n;
        }

        void setItem(int s, int i, int v) {
            items[s][i] = form[s] == BYTE_FORM ? (byte) v : form[s] == SHORT_FORM ? (short) v : v;
        }
    }
}
