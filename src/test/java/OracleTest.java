import java.util.ArrayList;
import java.util.Arrays;
import java.util.List;
import java.util.Random;

/** Random runs of calls against a slow model that was written from the document by itself. */
public final class OracleTest {
    private static final int NONE = -1, BAD = -2, NOT = -3, FULL = -4, LEAST = Integer.MIN_VALUE;
    /** An object is promised 512 calls; typing a text takes 48 at most, and the digest is one more. */
    private static final int RUNS = 800, CALLS = 512 - 48 - 1;
    /** Random texts seldom sing, so there are runs of their own for songs. */
    private static final int SONG_RUNS = 600, SONG_DAYS = 12;

    public static void main(String[] args) {
        Watch.begin();
        int wrong = 0;
        for (int run = 0; run < RUNS && wrong < 5; run++) {
            wrong += oneRun(run) ? 0 : 1;
        }
        for (int run = 0; run < SONG_RUNS && wrong < 5; run++) {
            wrong += songRun(run) ? 0 : 1;
        }
        System.out.println(wrong == 0 ? "all answers are as the model's" : wrong + " runs are not as the model's");
        System.exit(wrong == 0 ? 0 : 1);
    }

    private static boolean oneRun(int run) {
        Random r = new Random(run);
        BreathSold x = new BreathSold();
        Model m = new Model();
        List<String> told = new ArrayList<>();
        int calls = telling(r, x, m, told);
        while (calls < CALLS) {
            int kind = r.nextInt(43);
            if (kind >= 38) {
                calls += typeAll(x, m, r.nextInt(2), r, told);
                continue;
            }
            calls++;
            int[] a = arguments(kind, r, m);
            long got = call(x, kind, a);
            long want = m.call(kind, a);
            told.add(kind + Arrays.toString(a) + "=" + want);
            if (got != want) {
                System.out.println("run " + run + ": got " + got + " after " + told);
                return false;
            }
        }
        if (run % 10 == 0 && x.digest() != m.digest()) {
            System.out.println("run " + run + ": digest after " + told);
            return false;
        }
        return true;
    }

    /** A song of the bottles' own voices, with weak corks and joins: all rows of sing() and corks(), and the digest. */
    private static boolean songRun(int run) {
        Random r = new Random(run);
        BreathSold x = new BreathSold();
        Model m = new Model();
        List<String> told = new ArrayList<>();
        int n = 2 + r.nextInt(7);
        int voices = 1 + r.nextInt(8);
        StringBuilder bottles = new StringBuilder();
        StringBuilder song = new StringBuilder();
        int letters = r.nextInt(n + 1);
        for (int b = 0; b < n; b++) {
            char letter = (char) ('a' + r.nextInt(voices));
            bottles.append(b > 0 ? ";" : "").append(letter).append(r.nextInt(10)).append(1 + r.nextInt(9));
            bottles.append(r.nextInt(2) == 0 ? 0 : r.nextInt(10)).append(r.nextInt(2) == 0 ? 'n' : 's');
            if (b < letters) {
                song.insert(r.nextInt(b + 1), letter);
            }
        }
        tellText(x, m, 0, bottles.toString(), told);
        tellText(x, m, 1, song.toString(), told);
        for (int i = r.nextInt(5); i > 0; i--) {
            int kind = r.nextInt(4) > 0 ? 1 : r.nextInt(4);
            told(x, m, 8, told, r.nextInt(6), kind, r.nextInt(n), kind < 2 ? r.nextInt(kind == 0 ? 6 : n) : 0);
        }
        for (int i = r.nextInt(3); i > 0; i--) {
            told(x, m, 7, told, r.nextInt(20));
        }
        boolean fits = true;
        for (int i = 0; i < SONG_DAYS && fits; i++) {
            int day = r.nextInt(40);
            for (int at = NONE; at < 8; at++) {
                fits &= told(x, m, 20, told, day, at) && told(x, m, 22, told, day, Math.max(0, at));
                fits &= at >= 3 || told(x, m, 21, told, day, at);
            }
        }
        fits &= run % 10 != 0 || x.digest() == m.digest();
        if (!fits) {
            System.out.println("song run " + run + " after " + told);
        }
        return fits;
    }

    /** Whether the object and the model answer the call alike. */
    private static boolean told(BreathSold x, Model m, int kind, List<String> told, int... a) {
        long got = call(x, kind, a);
        long want = m.call(kind, a);
        told.add(kind + Arrays.toString(a) + "=" + want + (got == want ? "" : ", but got " + got));
        return got == want;
    }

    /** Answers how many calls it took. */
    private static int telling(Random r, BreathSold x, Model m, List<String> told) {
        int calls = typeAll(x, m, 0, r, told) + typeAll(x, m, 1, r, told);
        int acts = r.nextInt(12);
        for (int i = 0; i < acts; i++) {
            int[] a = arguments(8, r, m);
            told.add("act" + Arrays.toString(a));
            call(x, 8, a);
            m.call(8, a);
        }
        return calls + acts;
    }

    private static int typeAll(BreathSold x, Model m, int text, Random r, List<String> told) {
        StringBuilder s = new StringBuilder();
        int n = r.nextInt(9);
        for (int i = 0; i < n; i++) {
            char letter = (char) ('a' + r.nextInt(1 + r.nextInt(8)));
            if (text == 1) {
                s.append(letter);
                continue;
            }
            s.append(i > 0 ? ";" : "").append(letter).append(r.nextInt(10)).append(1 + r.nextInt(9));
            s.append(r.nextInt(3) == 0 ? 0 : r.nextInt(10)).append(r.nextInt(3) == 0 ? 'n' : 's');
        }
        return tellText(x, m, text, s.toString(), told);
    }

    private static int tellText(BreathSold x, Model m, int text, String s, List<String> told) {
        x.wipe(text);
        m.call(1, new int[] {text});
        for (int i = 0; i < s.length(); i++) {
            x.type(text, s.charAt(i));
            m.call(0, new int[] {text, s.charAt(i)});
        }
        told.add("text " + text + " " + s);
        return 1 + s.length();
    }

    private static int near(Random r, int low, int high) {
        switch (r.nextInt(50)) {
            case 0: return low - 1;
            case 1: return high + 1;
            case 2: return r.nextBoolean() ? Integer.MIN_VALUE : Integer.MAX_VALUE;
            default: return low + r.nextInt(high - low + 1);
        }
    }

    private static int day(Random r) {
        return r.nextInt(3) == 0 ? near(r, 0, 39) : near(r, 0, 8);
    }

    private static int bottle(Random r, Model m) {
        return r.nextInt(10) == 0 ? near(r, 0, 7) : r.nextInt(Math.max(1, m.bottles().size()));
    }

    /** By the numbers of the promises, less 2: type is 0. */
    private static int[] arguments(int kind, Random r, Model m) {
        switch (kind) {
            case 0: return new int[] {near(r, 0, 1), r.nextInt(2) == 0 ? near(r, 0, 255) : "abh;n09s".charAt(r.nextInt(8))};
            case 1: return new int[] {r.nextInt(4) == 0 ? near(r, 0, 1) : 2};
            case 2: case 3: return new int[] {near(r, 0, 1)};
            case 4: return new int[] {bottle(r, m), near(r, 0, 3)};
            case 5: return new int[] {near(r, 0, 7)};
            case 6: return new int[] {near(r, 1, 200)};
            case 7: return new int[] {day(r)};
            case 8: {
                int k = near(r, 0, 3);
                return new int[] {day(r), k, bottle(r, m), k == 0 ? near(r, 0, 5) : k == 1 ? bottle(r, m) : near(r, 0, 0)};
            }
            case 9: return new int[] {near(r, 0, 1)};
            case 10: return new int[] {near(r, 0, 3)};
            case 11: return new int[] {day(r), bottle(r, m), near(r, -1, 7)};
            case 12: case 13: return new int[] {day(r), bottle(r, m)};
            case 14: return new int[] {day(r), near(r, 0, 5)};
            case 15: case 16: case 22: return new int[] {day(r), near(r, 0, 7)};
            case 17: case 18: case 27: return new int[] {day(r)};
            case 19: return new int[] {near(r, 0, 15)};
            case 20: return new int[] {day(r), near(r, -1, 7)};
            case 21: return new int[] {day(r), near(r, -1, 2)};
            case 23: return weighed(r, m);
            case 24: case 25: case 37: return new int[] {};
            case 26: return new int[] {near(r, 0, 1)};
            case 28: return new int[] {near(r, 0, 16), bottle(r, m), r.nextInt(8) == 0 ? near(r, 0, 9) : r.nextInt(6), near(r, 0, 1)};
            case 29: return new int[] {r.nextInt(), day(r), r.nextInt(2) == 0 ? NONE : bottle(r, m)};
            case 30: return new int[] {near(r, 0, 3), near(r, 0, 2), r.nextInt(2) == 0 ? near(r, 0, 60) : near(r, 0, 8)};
            case 31: return new int[] {near(r, 0, 3)};
            case 32: return new int[] {near(r, 0, 3), near(r, 0, 2), near(r, 0, 8), r.nextInt(2) == 0 ? r.nextInt(6) : r.nextInt()};
            case 33: return new int[] {near(r, 0, 3), near(r, 0, 2), near(r, 0, 8)};
            case 34: return new int[] {near(r, 0, 3), near(r, 0, 6), near(r, 0, 3), near(r, 0, 6), near(r, 0, 4)};
            case 35: return new int[] {bottle(r, m), near(r, 0, 3)};
            default: return new int[] {near(r, 0, 8)};
        }
    }

    /** Mostly what one act less, or a pair swapped, would have made it. */
    private static int[] weighed(Random r, Model m) {
        int day = day(r);
        int bottle = bottle(r, m);
        int much = near(r, 0, 999);
        if (day >= 0 && day < 40 && bottle >= 0 && bottle < m.bottles().size() && r.nextInt(5) > 0) {
            int skip = r.nextInt(1 + m.acts.size()) - 1;
            much = m.behind(day, new Odd(skip, null, 0, 0L)).all(bottle);
        }
        return new int[] {day, bottle, much};
    }

    private static long call(BreathSold x, int kind, int[] a) {
        switch (kind) {
            case 0: return x.type(a[0], a[1]);
            case 1: return x.wipe(a[0]);
            case 2: return x.undo(a[0]);
            case 3: return x.fault(a[0]);
            case 4: return x.bottle(a[0], a[1]);
            case 5: return x.note(a[0]);
            case 6: return x.burst(a[0]);
            case 7: return x.hot(a[0]);
            case 8: return x.act(a[0], a[1], a[2], a[3]);
            case 9: return x.back(a[0]);
            case 10: return x.read(a[0]);
            case 11: return x.holds(a[0], a[1], a[2]);
            case 12: return x.who(a[0], a[1]);
            case 13: return x.whole(a[0], a[1]);
            case 14: return x.has(a[0], a[1]);
            case 15: return x.heard(a[0], a[1]);
            case 16: return x.spilled(a[0], a[1]);
            case 17: return x.leaked(a[0]);
            case 18: return x.lost(a[0]);
            case 19: return x.works(a[0]);
            case 20: return x.sing(a[0], a[1]);
            case 21: return x.corks(a[0], a[1]);
            case 22: return x.most(a[0], a[1]);
            case 23: return x.weighed(a[0], a[1], a[2]);
            case 24: return x.forget();
            case 25: return x.hid();
            case 26: return x.swapped(a[0]);
            case 27: return x.weigh(a[0]);
            case 28: return x.heat(a[0], a[1], a[2], a[3]);
            case 29: return x.market(a[0], a[1], a[2]);
            case 30: return x.sheet(a[0], a[1], a[2]);
            case 31: return x.lose(a[0]);
            case 32: return x.put(a[0], a[1], a[2], a[3]);
            case 33: return x.get(a[0], a[1], a[2]);
            case 34: return x.copy(a[0], a[1], a[2], a[3], a[4]);
            case 35: return x.write(a[0], a[1]);
            case 37: return x.digest() * 0;
            default: return x.count(a[0]);
        }
    }

    private record Bottle(int voice, int much, int cork, boolean south) { }

    private record Act(int day, int kind, int bottle, int to) { }

    private record Weighing(int day, int bottle, int much) { }

    /** What is otherwise than told: an act that is not, other first bottles, corked ones as bits, hot days as bits less 1. */
    private record Odd(int skip, List<Bottle> first, int corked, long hotPlus) { }

    private static final Odd AS_TOLD = new Odd(NONE, null, 0, 0L);

    private static final class Day {
        int n;
        int[][] in = new int[8][8];
        boolean[] whole = new boolean[8];
        int[] owner = new int[8];
        int[] cork = new int[8];
        int[] heard = new int[8];
        int[] spilled = new int[8];
        int leaked;
        boolean[] works = new boolean[200];

        int all(int b) {
            return Arrays.stream(in[b]).sum();
        }

        void empty(int b, int[] to) {
            for (int v = 0; v < 8; v++) {
                to[v] += in[b][v];
                in[b][v] = 0;
            }
        }
    }

    private static final class Model {
        final StringBuilder[] text = {new StringBuilder(), new StringBuilder()};
        List<Act> acts = new ArrayList<>();
        final List<Integer> hot = new ArrayList<>();
        final List<Weighing> weighed = new ArrayList<>();
        final int[][] sheet = new int[4][];
        final int[] form = new int[4];
        int burst = 60;
        int finding = 0;

        int fault(int t) {
            String s = text[t].toString();
            String one = t == 1 ? "[a-h]*" : "([a-h](0[1-9]|[1-9][0-9])[0-9][ns](;(?=.)|$))*";
            if (s.matches(one)) {
                return NONE;
            }
            // The longest beginning that some well text has.
            String[] ends = {"", "a011n", "011n", "11n", "1n", "n", ";a011n"};
            for (int length = s.length(); length >= 0; length--) {
                for (String end : ends) {
                    if (t == 0 && (s.substring(0, length) + end).matches(one) || t == 1 && s.substring(0, length).matches(one)) {
                        return length;
                    }
                }
            }
            return 0;
        }

        List<Bottle> bottles() {
            List<Bottle> all = new ArrayList<>();
            if (fault(0) != NONE || text[0].length() == 0) {
                return all;
            }
            for (String s : text[0].toString().split(";")) {
                all.add(new Bottle(s.charAt(0) - 'a', Integer.parseInt(s.substring(1, 3)), s.charAt(3) - '0', s.charAt(4) == 's'));
            }
            return all;
        }

        String song() {
            return fault(1) == NONE ? text[1].toString() : "";
        }

        Day behind(int last, Odd odd) {
            List<Bottle> first = odd.first() == null ? bottles() : odd.first();
            Day d = new Day();
            d.n = first.size();
            for (int b = 0; b < d.n; b++) {
                d.in[b][first.get(b).voice()] = first.get(b).much();
                d.whole[b] = true;
                d.cork[b] = (odd.corked() >> b & 1) == 1 ? 9 : first.get(b).cork();
            }
            for (int day = 0; day <= last; day++) {
                for (int a = 0; a < acts.size(); a++) {
                    if (acts.get(a).day() == day && a != odd.skip()) {
                        d.works[a] = perform(d, acts.get(a));
                    }
                }
                leak(d);
                boolean isHot = odd.hotPlus() == 0 ? hot.contains(day) : (odd.hotPlus() - 1 >> day & 1) == 1;
                for (int b = 0; b < d.n && isHot; b++) {
                    if (d.whole[b] && first.get(b).south() && d.all(b) >= burst) {
                        d.whole[b] = false;
                        d.empty(b, d.spilled);
                    }
                }
            }
            return d;
        }

        static boolean perform(Day d, Act a) {
            int b = a.bottle();
            if (b >= d.n) {
                return false;
            }
            if (a.kind() == 0) {
                boolean other = d.owner[b] != a.to();
                d.owner[b] = a.to();
                return other;
            }
            if (a.kind() == 1) {
                if (a.to() >= d.n || a.to() == b || !d.whole[b] || !d.whole[a.to()]) {
                    return false;
                }
                d.empty(b, d.in[a.to()]);
                return true;
            }
            if (a.kind() == 2) {
                if (!d.whole[b]) {
                    return false;
                }
                d.whole[b] = false;
                d.empty(b, d.heard);
                return true;
            }
            boolean open = d.cork[b] != 9;
            d.cork[b] = 9;
            return open;
        }

        static void leak(Day d) {
            for (int b = 0; b < d.n; b++) {
                for (int v = 0; v < 8; v++) {
                    if (d.whole[b] && d.in[b][v] > 0) {
                        int gone = (int) Math.floor(d.in[b][v] * (10 - d.cork[b]) / 100.0 + 1e-9) + (d.cork[b] == 0 ? 1 : 0);
                        d.in[b][v] -= gone;
                        d.leaked += gone;
                    }
                }
            }
        }

        int[] bestRow;
        int bestSpill;

        /** Tries every row in order. */
        boolean sing(Day d) {
            bestRow = null;
            bestSpill = Integer.MAX_VALUE;
            String s = song();
            tryRows(d, s, new int[s.length()], 0, 0, 0);
            return bestRow != null;
        }

        void tryRows(Day d, String s, int[] row, int i, int used, int spill) {
            if (i == s.length()) {
                if (spill < bestSpill) {
                    bestSpill = spill;
                    bestRow = row.clone();
                }
                return;
            }
            for (int b = 0; b < d.n; b++) {
                int much = d.in[b][s.charAt(i) - 'a'];
                if ((used >> b & 1) == 0 && much > 0) {
                    row[i] = b;
                    tryRows(d, s, row, i + 1, used | 1 << b, spill + d.all(b) - much);
                }
            }
        }

        /** The row, then how many; null: none. */
        List<Integer> corks(int day) {
            int n = bottles().size();
            if (sing(behind(day, AS_TOLD))) {
                return List.of();
            }
            for (int a = 0; a < n; a++) {
                if (singsCorked(day, 1 << a)) {
                    return List.of(a);
                }
            }
            for (int a = 0; a < n; a++) {
                for (int b = a + 1; b < n; b++) {
                    if (singsCorked(day, 1 << a | 1 << b)) {
                        return List.of(a, b);
                    }
                }
            }
            for (int a = 0; a < n; a++) {
                for (int b = a + 1; b < n; b++) {
                    for (int c = b + 1; c < n; c++) {
                        if (singsCorked(day, 1 << a | 1 << b | 1 << c)) {
                            return List.of(a, b, c);
                        }
                    }
                }
            }
            return null;
        }

        boolean singsCorked(int day, int bits) {
            return sing(behind(day, new Odd(NONE, null, bits, 0L)));
        }

        boolean comesOut(Odd odd) {
            for (Weighing w : weighed) {
                if (w.bottle() >= bottles().size() || behind(w.day(), odd).all(w.bottle()) != w.much()) {
                    return false;
                }
            }
            return true;
        }

        int hid() {
            int bits = 0;
            for (int a = 0; a < acts.size(); a++) {
                bits += comesOut(new Odd(a, null, 0, 0L)) ? 1 << a : 0;
            }
            return bits;
        }

        int swapped(int what) {
            int pairs = 0;
            int least = NONE;
            for (int pair = 63; pair >= 0; pair--) {
                int a = pair / 8;
                int b = pair % 8;
                List<Bottle> first = bottles();
                if (a >= b || b >= first.size()) {
                    continue;
                }
                Bottle kept = first.get(a);
                first.set(a, first.get(b));
                first.set(b, kept);
                if (comesOut(new Odd(NONE, first, 0, 0L))) {
                    pairs++;
                    least = pair;
                }
            }
            return what == 0 ? pairs : least;
        }

        int weigh(int day) {
            int n = bottles().size();
            int bits = hid();
            int best = NONE;
            int fewest = Integer.MAX_VALUE;
            for (int b = 0; b < n; b++) {
                int[] alike = new int[1000];
                for (int a = 0; a < acts.size(); a++) {
                    if ((bits >> a & 1) == 1) {
                        alike[behind(day, new Odd(a, null, 0, 0L)).all(b)]++;
                    }
                }
                int greatest = Arrays.stream(alike).max().getAsInt();
                if (greatest < fewest) {
                    fewest = greatest;
                    best = b;
                }
            }
            return best;
        }

        long heat(int c, int bottle, int day, int what) {
            long above = 0;
            long below = (long) Math.pow(16, day + 1);
            for (long pattern = 0; pattern < 1L << day + 1; pattern++) {
                long ways = 1;
                for (int d = 0; d <= day; d++) {
                    ways *= (pattern >> d & 1) == 1 ? c : 16 - c;
                }
                if (ways > 0 && behind(day, new Odd(NONE, null, 0, pattern + 1)).whole[bottle]) {
                    above += ways;
                }
            }
            long g = gcd(above, below);
            return what == 0 ? above / g : below / g;
        }

        static long gcd(long a, long b) {
            return b == 0 ? a : gcd(b, a % b);
        }

        int market(int seed, int day, int bottle) {
            int n = bottles().size();
            if (n == 0) {
                return 0;
            }
            List<Act> kept = acts;
            acts = new ArrayList<>(kept);
            long s = seed & 0xffffffffL;
            for (int d = 0; d <= day; d++) {
                s = (1103515245L * s + 12345L) & 0xffffffffL;
                int b = (int) ((s >> 16) % n);
                s = (1103515245L * s + 12345L) & 0xffffffffL;
                acts.add(new Act(d, 0, b, (int) ((s >> 16) % 6)));
            }
            Day then = behind(day, AS_TOLD);
            int working = 0;
            for (int a = kept.size(); a < acts.size(); a++) {
                working += then.works[a] ? 1 : 0;
            }
            acts = kept;
            return bottle == NONE ? working : then.owner[bottle];
        }

        static boolean in(int i, int low, int high) {
            return i >= low && i <= high;
        }

        boolean is(int b) {
            return in(b, 0, bottles().size() - 1);
        }

        int found(int number) {
            finding = number;
            return -10 - number;
        }

        int act(int[] a) {
            boolean fits = in(a[0], 0, 39) && in(a[1], 0, 3) && in(a[2], 0, 7)
                && in(a[3], 0, a[1] == 0 ? 5 : a[1] == 1 ? 7 : 0);
            if (!fits) {
                return BAD;
            }
            if (acts.size() == 16) {
                return FULL;
            }
            acts.add(new Act(a[0], a[1], a[2], a[3]));
            return acts.size();
        }

        int read(int s) {
            if (!in(s, 0, 3)) {
                return BAD;
            }
            if (sheet[s] == null) {
                return found(1);
            }
            int many = 0;
            while (4 * many + 4 <= sheet[s].length && act(Arrays.copyOfRange(sheet[s], 4 * many, 4 * many + 4)) > 0) {
                many++;
            }
            return many;
        }

        int narrow(int form, int v) {
            return form == 0 ? (byte) v : form == 1 ? (short) v : v;
        }

        int itemFinding(int s, int as, int i) {
            return sheet[s] == null ? 1 : form[s] != as ? 3 : in(i, 0, sheet[s].length - 1) ? 0 : 2;
        }

        int copy(int[] a) {
            if (!in(a[0], 0, 3) || !in(a[2], 0, 3)) {
                return BAD;
            }
            int[] from = sheet[a[0]];
            int[] to = sheet[a[2]];
            if (from == null || to == null) {
                return found(1);
            }
            if (form[a[0]] != form[a[2]]) {
                return found(4);
            }
            if (a[1] < 0 || a[3] < 0 || a[4] < 0 || (long) a[1] + a[4] > from.length || (long) a[3] + a[4] > to.length) {
                return found(2);
            }
            int[] were = from.clone();
            for (int k = 0; k < a[4]; k++) {
                to[a[3] + k] = were[a[1] + k];
            }
            return 1;
        }

        long call(int kind, int[] a) {
            if (kind <= 10) {
                return tell(kind, a);
            }
            if (kind >= 30 && kind <= 35) {
                return sheetCall(kind, a);
            }
            if (kind >= 11 && kind <= 18 && !in(a[0], 0, 39)) {
                return BAD;
            }
            switch (kind) {
                case 11: return !is(a[1]) || !in(a[2], -1, 7) ? BAD : a[2] == NONE ? at(a[0]).all(a[1]) : at(a[0]).in[a[1]][a[2]];
                case 12: return !is(a[1]) ? BAD : at(a[0]).owner[a[1]];
                case 13: return !is(a[1]) ? BAD : at(a[0]).whole[a[1]] ? 1 : 0;
                case 14: return !in(a[1], 0, 5) ? BAD : voicesOf(at(a[0]), a[1]);
                case 15: return !in(a[1], 0, 7) ? BAD : at(a[0]).heard[a[1]];
                case 16: return !in(a[1], 0, 7) ? BAD : at(a[0]).spilled[a[1]];
                case 17: return at(a[0]).leaked;
                case 18: return lost(a[0]);
                case 19: return !in(a[0], 0, acts.size() - 1) ? BAD : at(39).works[a[0]] ? 1 : 0;
                case 20: return singing(a[0], a[1]);
                case 21: return corking(a[0], a[1]);
                case 22: return !in(a[0], 0, 39) || !in(a[1], 0, 7) ? BAD : most(at(a[0]), a[1]);
                case 23: return weighing(a);
                case 24: {
                    int had = weighed.size();
                    weighed.clear();
                    return had;
                }
                case 25: return hid();
                case 26: return !in(a[0], 0, 1) ? BAD : swapped(a[0]);
                case 27: return !in(a[0], 0, 39) ? BAD : weigh(a[0]);
                case 28: return !in(a[0], 0, 16) || !is(a[1]) || !in(a[2], 0, 9) || !in(a[3], 0, 1) ? Long.MIN_VALUE + 2 : heat(a[0], a[1], a[2], a[3]);
                case 29: return !in(a[1], 0, 39) || a[2] != NONE && !is(a[2]) ? BAD : market(a[0], a[1], a[2]);
                case 37: return 0;
                default: return count(a[0]);
            }
        }

        Day at(int day) {
            return behind(day, AS_TOLD);
        }

        long tell(int kind, int[] a) {
            boolean isText = in(a[0], 0, 1);
            switch (kind) {
                case 0:
                    if (!isText || !in(a[1], 0, 255)) {
                        return BAD;
                    }
                    if (text[a[0]].length() == (a[0] == 0 ? 47 : 8)) {
                        return FULL;
                    }
                    return text[a[0]].append((char) a[1]).length();
                case 1: {
                    if (!isText) {
                        return BAD;
                    }
                    int had = text[a[0]].length();
                    text[a[0]].setLength(0);
                    return had;
                }
                case 2:
                    if (!isText) {
                        return BAD;
                    }
                    if (text[a[0]].length() == 0) {
                        return NOT;
                    }
                    text[a[0]].setLength(text[a[0]].length() - 1);
                    return text[a[0]].length();
                case 3: return isText ? fault(a[0]) : BAD;
                case 4: {
                    if (!is(a[0]) || !in(a[1], 0, 3)) {
                        return BAD;
                    }
                    Bottle b = bottles().get(a[0]);
                    return new int[] {b.voice(), b.much(), b.cork(), b.south() ? 1 : 0}[a[1]];
                }
                case 5: return !in(a[0], 0, 7) ? BAD : a[0] < song().length() ? song().charAt(a[0]) - 'a' : NONE;
                case 6: {
                    int was = burst;
                    burst = in(a[0], 1, 200) ? a[0] : burst;
                    return in(a[0], 1, 200) ? was : BAD;
                }
                case 7:
                    if (!in(a[0], 0, 39)) {
                        return BAD;
                    }
                    if (hot.size() == 8) {
                        return FULL;
                    }
                    hot.add(a[0]);
                    return hot.size();
                case 8: return act(a);
                case 9: {
                    if (!isText) {
                        return BAD;
                    }
                    List<?> told = a[0] == 0 ? acts : hot;
                    if (told.isEmpty()) {
                        return NOT;
                    }
                    told.remove(told.size() - 1);
                    return told.size();
                }
                default: return read(a[0]);
            }
        }

        long sheetCall(int kind, int[] a) {
            if (kind == 34) {
                return copy(a);
            }
            int s = kind == 35 ? a[1] : a[0];
            boolean bad = !in(s, 0, 3) || (kind == 30 || kind == 32 || kind == 33) && !in(a[1], 0, 2)
                || kind == 30 && a[2] > 60 || kind == 35 && !is(a[0]);
            if (bad) {
                return kind == 33 ? LEAST : BAD;
            }
            if (kind == 30) {
                if (a[2] < 0) {
                    return found(5);
                }
                sheet[s] = new int[a[2]];
                form[s] = a[1];
                return a[2];
            }
            if (kind == 32 || kind == 33) {
                int f = itemFinding(s, a[1], a[2]);
                if (f != 0) {
                    return kind == 33 ? found(f) * 0 + LEAST : found(f);
                }
                if (kind == 33) {
                    return sheet[s][a[2]];
                }
                sheet[s][a[2]] = narrow(a[1], a[3]);
                return 1;
            }
            if (sheet[s] == null) {
                return found(1);
            }
            int had = sheet[s].length;
            if (kind == 31) {
                sheet[s] = null;
                return had;
            }
            for (int d = 0; d < had && d < 40; d++) {
                sheet[s][d] = narrow(form[s], at(d).all(a[0]));
            }
            return Math.min(had, 40);
        }

        int voicesOf(Day d, int owner) {
            int bits = 0;
            for (int b = 0; b < d.n; b++) {
                for (int v = 0; v < 8; v++) {
                    bits |= d.in[b][v] > 0 && (owner == NONE || d.owner[b] == owner) ? 1 << v : 0;
                }
            }
            return bits;
        }

        int lost(int day) {
            int bits = 0;
            for (Bottle b : bottles()) {
                bits |= 1 << b.voice();
            }
            return bits & ~voicesOf(at(day), NONE);
        }

        int singing(int day, int i) {
            if (!in(day, 0, 39) || !in(i, -1, 7)) {
                return BAD;
            }
            if (!sing(at(day))) {
                return NONE;
            }
            return i == NONE ? bestSpill : i < bestRow.length ? bestRow[i] : NONE;
        }

        int corking(int day, int i) {
            if (!in(day, 0, 39) || !in(i, -1, 2)) {
                return BAD;
            }
            List<Integer> row = corks(day);
            return row == null ? NONE : i == NONE ? row.size() : i < row.size() ? row.get(i) : NONE;
        }

        int most(Day d, int v) {
            int best = NONE;
            for (int b = d.n - 1; b >= 0; b--) {
                if (d.in[b][v] > 0 && (best == NONE || d.in[b][v] >= d.in[best][v])) {
                    best = b;
                }
            }
            return best;
        }

        int weighing(int[] a) {
            if (!in(a[0], 0, 39) || !in(a[1], 0, 7) || !in(a[2], 0, 999)) {
                return BAD;
            }
            if (weighed.size() == 8) {
                return FULL;
            }
            weighed.add(new Weighing(a[0], a[1], a[2]));
            return weighed.size();
        }

        int count(int what) {
            int working = 0;
            for (int a = 0; a < acts.size(); a++) {
                working += at(39).works[a] ? 1 : 0;
            }
            int[] all = {bottles().size(), song().length(), text[0].length(), text[1].length(), acts.size(), working,
                hot.size(), weighed.size(), finding};
            return in(what, 0, 8) ? all[what] : BAD;
        }

        long digest() {
            List<Long> each = new ArrayList<>();
            for (int what = 0; what < 8; what++) {
                each.add((long) count(what));
            }
            each.add((long) fault(0));
            each.add((long) fault(1));
            for (int b = 0; b < bottles().size(); b++) {
                Bottle first = bottles().get(b);
                for (int v : new int[] {first.voice(), first.much(), first.cork(), first.south() ? 1 : 0, at(5).all(b),
                    at(39).all(b), at(9).owner[b], at(39).whole[b] ? 1 : 0}) {
                    each.add((long) v);
                }
                each.add(heat(5, b, 6, 0));
                each.add(heat(5, b, 6, 1));
                each.add((long) market(7, 20, b));
            }
            for (char c : song().toCharArray()) {
                each.add((long) c - 'a');
            }
            for (int v = 0; v < 8; v++) {
                each.add((long) at(39).heard[v]);
                each.add((long) at(39).spilled[v]);
                each.add((long) most(at(5), v));
            }
            for (int o = 0; o < 6; o++) {
                each.add((long) voicesOf(at(9), o));
            }
            for (int day : new int[] {0, 5, 39}) {
                for (int v : new int[] {at(day).leaked, lost(day), singing(day, NONE), singing(day, 0),
                    corking(day, NONE), corking(day, 0), weigh(day)}) {
                    each.add((long) v);
                }
            }
            for (int a = 0; a < acts.size(); a++) {
                each.add(at(39).works[a] ? 1L : 0L);
            }
            each.add((long) hid());
            each.add((long) swapped(0));
            each.add((long) swapped(1));
            each.add((long) market(7, 20, NONE));
            long h = 17;
            for (long e : each) {
                h = 31 * h + e;
            }
            return h;
        }
    }
}
