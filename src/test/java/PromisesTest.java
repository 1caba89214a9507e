/** Each promise with ordinary inputs, its edges and wrong inputs; what is due was worked out by hand. */
public final class PromisesTest {
    private static final int NONE = BreathSold.NONE, BAD = BreathSold.BAD, NOT = BreathSold.NOT, FULL = BreathSold.FULL;
    private static final int NULL_FOUND = -11, INDEX_FOUND = -12, CAST_FOUND = -13, STORE_FOUND = -14, SIZE_FOUND = -15;
    private static final int SALE = 0, JOIN = 1, BREAK = 2, CORKED = 3;
    private static final int LEAST_INT = Integer.MIN_VALUE;
    private static final long BAD_LONG = Long.MIN_VALUE + 2;

    private static int wrong = 0;

    public static void main(String[] args) {
        Watch.begin();
        newObject();
        type();
        wipe();
        undo();
        fault();
        bottle();
        note();
        burst();
        hot();
        act();
        back();
        read();
        holds();
        who();
        whole();
        has();
        heard();
        spilled();
        leaked();
        lost();
        works();
        sing();
        corks();
        most();
        weighed();
        forget();
        hid();
        swapped();
        weigh();
        heat();
        market();
        sheet();
        lose();
        put();
        get();
        copy();
        write();
        count();
        digest();
        refusals();
        System.out.println(wrong == 0 ? "all answers are as due" : wrong + " answers are not as due");
        System.exit(wrong == 0 ? 0 : 1);
    }

    private static void due(String call, long want, long got) {
        if (want != got) {
            wrong++;
            System.out.println(call + " answered " + got + ", due is " + want);
        }
    }

    private static void typeAll(BreathSold x, int text, String s) {
        for (int i = 0; i < s.length(); i++) {
            x.type(text, s.charAt(i));
        }
    }

    private static BreathSold with(String bottles) {
        BreathSold x = new BreathSold();
        typeAll(x, 0, bottles);
        due("fault of " + bottles, NONE, x.fault(0));
        return x;
    }

    private static BreathSold with(String bottles, String song) {
        BreathSold x = with(bottles);
        typeAll(x, 1, song);
        return x;
    }

    private static void fill(BreathSold x, int s, int form, int... items) {
        x.sheet(s, form, items.length);
        for (int i = 0; i < items.length; i++) {
            x.put(s, form, i, items[i]);
        }
    }

    private static void newObject() {
        BreathSold x = new BreathSold();
        for (int what = 0; what <= 8; what++) {
            due("1 count " + what, 0, x.count(what));
        }
        due("1 note", NONE, x.note(0));
        due("1 bottle", BAD, x.bottle(0, 0));
        due("1 burst", 60, x.burst(60));
        for (int s = 0; s < 4; s++) {
            due("1 lose " + s, NULL_FOUND, x.lose(s));
        }
    }

    private static void type() {
        BreathSold x = new BreathSold();
        due("2 text below", BAD, x.type(-1, 97));
        due("2 text above", BAD, x.type(2, 97));
        due("2 byte below", BAD, x.type(0, -1));
        due("2 byte above", BAD, x.type(0, 256));
        due("2 least byte", 1, x.type(0, 0));
        due("2 greatest byte", 2, x.type(0, 255));
        due("2 other text", 1, x.type(1, 97));
        for (int i = 2; i < 47; i++) {
            due("2 byte " + i, i + 1, x.type(0, 97));
        }
        due("2 full", FULL, x.type(0, 97));
        due("2 bad ahead of full", BAD, x.type(0, 256));
        for (int i = 1; i < 8; i++) {
            due("2 letter " + i, i + 1, x.type(1, 97));
        }
        due("2 song full", FULL, x.type(1, 97));
        due("2 bytes stay", 47, x.count(2));
        due("2 letters stay", 8, x.count(3));
    }

    private static void wipe() {
        BreathSold x = with("a109n;b209s", "ab");
        due("3 below", BAD, x.wipe(-1));
        due("3 above", BAD, x.wipe(2));
        due("3 bottles", 11, x.wipe(0));
        due("3 no bottles", 0, x.count(0));
        due("3 song stays", 2, x.count(1));
        due("3 song", 2, x.wipe(1));
        due("3 no song", 0, x.count(1));
        due("3 empty", 0, x.wipe(0));
    }

    private static void undo() {
        BreathSold x = with("a109n;b209s", "ab");
        due("4 below", BAD, x.undo(-1));
        due("4 above", BAD, x.undo(2));
        due("4 song", 1, x.undo(1));
        due("4 one letter", 1, x.count(1));
        due("4 last letter", 0, x.undo(1));
        due("4 empty", NOT, x.undo(1));
        due("4 bottles", 10, x.undo(0));
        due("4 a fault leaves none", 0, x.count(0));
        for (int left = 9; left >= 5; left--) {
            due("4 left", left, x.undo(0));
        }
        due("4 one bottle", 1, x.count(0));
    }

    private static void faultOf(String text, int bottlesFault) {
        BreathSold x = new BreathSold();
        typeAll(x, 0, text);
        due("5 fault of bottles " + text, bottlesFault, x.fault(0));
    }

    private static void songFaultOf(String text, int songFault) {
        BreathSold x = new BreathSold();
        typeAll(x, 1, text);
        due("5 fault of song " + text, songFault, x.fault(1));
        due("5 letters of " + text, songFault == NONE ? text.length() : 0, x.count(1));
    }

    private static void fault() {
        faultOf("", NONE);
        faultOf("i", 0);
        faultOf("A", 0);
        faultOf("`", 0);
        faultOf(";", 0);
        faultOf("a", 1);
        faultOf("ab", 1);
        faultOf("a/", 1);
        faultOf("a:", 1);
        faultOf("a0", 2);
        faultOf("a00", 2);
        faultOf("a000n", 2);
        faultOf("a0x", 2);
        faultOf("a01", 3);
        faultOf("a10", 3);
        faultOf("a10n", 3);
        faultOf("a100", 4);
        faultOf("a100e", 4);
        faultOf("a100N", 4);
        faultOf("a100n", NONE);
        faultOf("h999s", NONE);
        faultOf("a100nn", 5);
        faultOf("a100n,", 5);
        faultOf("a100n;", 6);
        faultOf("a100n;i", 6);
        faultOf("a100n;b", 7);
        faultOf("a100n;b00", 8);
        faultOf("a100n;b001n", 8);
        faultOf("a100n;b011s", NONE);
        faultOf("a011n;b022s;c033n;d044s;e055n;f066s;g077n;h088s", NONE);
        songFaultOf("", NONE);
        songFaultOf("abcdefgh", NONE);
        songFaultOf("aaaaaaaa", NONE);
        songFaultOf("i", 0);
        songFaultOf("ab;", 2);
        songFaultOf("hgA", 2);
        BreathSold x = new BreathSold();
        due("5 below", BAD, x.fault(-1));
        due("5 above", BAD, x.fault(2));
    }

    private static void bottle() {
        BreathSold x = with("c079s;h990n");
        due("6 voice", 2, x.bottle(0, 0));
        due("6 much", 7, x.bottle(0, 1));
        due("6 cork", 9, x.bottle(0, 2));
        due("6 south", 1, x.bottle(0, 3));
        due("6 voice of 1", 7, x.bottle(1, 0));
        due("6 much of 1", 99, x.bottle(1, 1));
        due("6 cork of 1", 0, x.bottle(1, 2));
        due("6 north of 1", 0, x.bottle(1, 3));
        due("6 no such", BAD, x.bottle(2, 0));
        due("6 below", BAD, x.bottle(-1, 0));
        due("6 what below", BAD, x.bottle(0, -1));
        due("6 what above", BAD, x.bottle(0, 4));
        x.act(0, CORKED, 1, 0);
        due("6 at first", 0, x.bottle(1, 2));
        x.type(0, 'x');
        due("6 a fault", BAD, x.bottle(0, 0));
    }

    private static void note() {
        BreathSold x = with("", "ahc");
        due("7 first", 0, x.note(0));
        due("7 second", 7, x.note(1));
        due("7 third", 2, x.note(2));
        due("7 behind", NONE, x.note(3));
        due("7 last", NONE, x.note(7));
        due("7 below", BAD, x.note(-1));
        due("7 above", BAD, x.note(8));
        x.type(1, 'z');
        due("7 a fault", NONE, x.note(0));
    }

    private static void burst() {
        BreathSold x = with("a609s;b609n");
        x.hot(3);
        due("8 below", BAD, x.burst(0));
        due("8 above", BAD, x.burst(201));
        due("8 bursts at 60", 0, x.whole(3, 0));
        due("8 north stays", 1, x.whole(3, 1));
        due("8 what it was", 60, x.burst(61));
        due("8 stays at 61", 1, x.whole(3, 0));
        due("8 greatest", 61, x.burst(200));
        due("8 least", 200, x.burst(1));
        due("8 bursts at 1", 0, x.whole(3, 0));
        due("8 was 1", 1, x.burst(60));
    }

    private static void hot() {
        BreathSold x = with("a999s");
        due("9 below", BAD, x.hot(-1));
        due("9 above", BAD, x.hot(40));
        due("9 first", 1, x.hot(39));
        due("9 whole ahead", 1, x.whole(38, 0));
        due("9 burst", 0, x.whole(39, 0));
        due("9 again", 2, x.hot(39));
        for (int i = 2; i < 8; i++) {
            due("9 more", i + 1, x.hot(0));
        }
        due("9 full", FULL, x.hot(1));
        due("9 bad ahead of full", BAD, x.hot(40));
        due("9 burst on day 0", 0, x.whole(0, 0));
    }

    private static void act() {
        BreathSold x = new BreathSold();
        due("10 day below", BAD, x.act(-1, SALE, 0, 0));
        due("10 day above", BAD, x.act(40, SALE, 0, 0));
        due("10 kind below", BAD, x.act(0, -1, 0, 0));
        due("10 kind above", BAD, x.act(0, 4, 0, 0));
        due("10 bottle below", BAD, x.act(0, SALE, -1, 0));
        due("10 bottle above", BAD, x.act(0, SALE, 8, 0));
        due("10 owner below", BAD, x.act(0, SALE, 0, -1));
        due("10 owner above", BAD, x.act(0, SALE, 0, 6));
        due("10 join below", BAD, x.act(0, JOIN, 0, -1));
        due("10 join above", BAD, x.act(0, JOIN, 0, 8));
        due("10 break to", BAD, x.act(0, BREAK, 0, 1));
        due("10 corked to", BAD, x.act(0, CORKED, 0, 1));
        due("10 none yet", 0, x.count(4));
        due("10 sale", 1, x.act(39, SALE, 7, 5));
        due("10 join", 2, x.act(0, JOIN, 7, 7));
        due("10 break", 3, x.act(0, BREAK, 7, 0));
        due("10 corked", 4, x.act(0, CORKED, 7, 0));
        for (int i = 4; i < 16; i++) {
            due("10 more", i + 1, x.act(0, SALE, 0, 0));
        }
        due("10 full", FULL, x.act(0, SALE, 0, 0));
        due("10 bad ahead of full", BAD, x.act(0, SALE, 8, 0));
        due("10 sixteen", 16, x.count(4));
        ordersOfActs();
    }

    private static void ordersOfActs() {
        BreathSold x = with("a509n;b309n");
        x.act(4, BREAK, 1, 0);
        x.act(4, JOIN, 0, 1);
        x.act(2, JOIN, 1, 0);
        due("10 the earlier day is first", 30, x.holds(2, 0, 1));
        due("10 empty when broken", 0, x.heard(4, 1));
        due("10 no join with a broken one", 80, x.holds(39, 0, NONE));
        BreathSold y = with("a509n;b309n");
        y.act(4, JOIN, 0, 1);
        y.act(4, BREAK, 1, 0);
        due("10 as told on one day", 50, y.heard(4, 0));
    }

    private static void back() {
        BreathSold x = with("a509s");
        due("11 below", BAD, x.back(-1));
        due("11 above", BAD, x.back(2));
        due("11 no acts", NOT, x.back(0));
        due("11 no hot days", NOT, x.back(1));
        x.act(0, SALE, 0, 1);
        x.act(0, BREAK, 0, 0);
        x.hot(1);
        due("11 broken", 0, x.whole(0, 0));
        due("11 act", 1, x.back(0));
        due("11 whole again", 1, x.whole(0, 0));
        due("11 sold still", 1, x.who(0, 0));
        due("11 hot day", 0, x.back(1));
        due("11 no hot day more", NOT, x.back(1));
        due("11 last act", 0, x.back(0));
        due("11 not sold", 0, x.who(0, 0));
        due("11 none left", NOT, x.back(0));
    }

    private static void read() {
        BreathSold x = with("a509n");
        due("12 below", BAD, x.read(-1));
        due("12 above", BAD, x.read(4));
        due("12 lost", NULL_FOUND, x.read(0));
        due("12 finding", 1, x.count(8));
        fill(x, 0, 1, 1, SALE, 0, 4, 2, BREAK, 0, 0, 3, CORKED, 0);
        due("12 two are whole", 2, x.read(0));
        due("12 sold", 4, x.who(1, 0));
        due("12 broken", 0, x.whole(2, 0));
        fill(x, 1, 2, 1, SALE, 0, 5, 1, SALE, 0, 6, 1, SALE, 0, 3);
        due("12 as long as each may be", 1, x.read(1));
        due("12 behind the others", 3, x.count(4));
        due("12 sold on", 5, x.who(1, 0));
        fill(x, 2, 0, -1, SALE, 0, 0);
        due("12 a day below 0", 0, x.read(2));
        fill(x, 2, 0);
        due("12 no items", 0, x.read(2));
        x.sheet(3, 0, 60);
        due("12 until it is full", 13, x.read(3));
        due("12 full", 16, x.count(4));
        due("12 no more", 0, x.read(3));
    }

    private static void holds() {
        BreathSold x = with("a505n;b305n;c010n");
        due("13 leaks", 48, x.holds(0, 0, 0));
        due("13 cork 0 leaks 1 more", 0, x.holds(0, 2, 2));
        x.act(0, JOIN, 0, 1);
        due("13 cut for each voice", 48, x.holds(0, 1, 0));
        due("13 its own", 29, x.holds(0, 1, 1));
        due("13 altogether", 77, x.holds(0, 1, NONE));
        due("13 none of it", 0, x.holds(0, 1, 2));
        due("13 the empty one", 0, x.holds(0, 0, NONE));
        due("13 next day", 74, x.holds(1, 1, NONE));
        due("13 back a day", 77, x.holds(0, 1, NONE));
        due("13 day below", BAD, x.holds(-1, 0, 0));
        due("13 day above", BAD, x.holds(40, 0, 0));
        due("13 bottle below", BAD, x.holds(0, -1, 0));
        due("13 no such bottle", BAD, x.holds(0, 3, 0));
        due("13 voice below", BAD, x.holds(0, 0, -2));
        due("13 voice above", BAD, x.holds(0, 0, 8));
        BreathSold y = with("a995n;a995n");
        y.act(0, JOIN, 1, 0);
        due("13 like voices are one", 198 - 9, y.holds(0, 0, 0));
        y.act(0, CORKED, 0, 0);
        due("13 corked leaks a hundredth", 198 - 1, y.holds(0, 0, 0));
        due("13 and on", 197 - 1, y.holds(1, 0, 0));
        due("13 day by day", 198 - 40, y.holds(39, 0, 0));
        due("13 of less than a hundred nothing", 99, with("a999n").holds(39, 0, 0));
    }

    private static void who() {
        BreathSold x = with("a109n;b109n");
        x.act(3, SALE, 0, 4);
        x.act(5, BREAK, 0, 0);
        x.act(6, SALE, 0, 5);
        x.act(6, SALE, 0, 2);
        due("14 at first", 0, x.who(2, 0));
        due("14 sold", 4, x.who(3, 0));
        due("14 a broken one is sold too", 2, x.who(6, 0));
        due("14 the other", 0, x.who(39, 1));
        due("14 day below", BAD, x.who(-1, 0));
        due("14 day above", BAD, x.who(40, 0));
        due("14 bottle below", BAD, x.who(0, -1));
        due("14 no such", BAD, x.who(0, 2));
    }

    private static void whole() {
        BreathSold x = with("a109n;b109n");
        x.act(3, BREAK, 0, 0);
        x.act(4, JOIN, 1, 0);
        x.act(5, JOIN, 0, 1);
        due("15 ahead", 1, x.whole(2, 0));
        due("15 broken", 0, x.whole(3, 0));
        due("15 stays broken", 0, x.whole(39, 0));
        due("15 no join into it", 10, x.holds(5, 1, NONE));
        due("15 the other", 1, x.whole(39, 1));
        due("15 day below", BAD, x.whole(-1, 0));
        due("15 day above", BAD, x.whole(40, 0));
        due("15 bottle below", BAD, x.whole(0, -1));
        due("15 no such", BAD, x.whole(0, 2));
        BreathSold y = with("a109n;b109n");
        y.act(0, JOIN, 0, 1);
        due("15 emptied by a join", 1, y.whole(0, 0));
    }

    private static void has() {
        BreathSold x = with("a109n;b109n;d109n");
        x.act(1, SALE, 1, 5);
        x.act(2, JOIN, 2, 1);
        x.act(3, BREAK, 1, 0);
        due("16 all", 11, x.has(0, 0));
        due("16 none", 0, x.has(0, 5));
        due("16 sold", 2, x.has(1, 5));
        due("16 left", 9, x.has(1, 0));
        due("16 joined", 10, x.has(2, 5));
        due("16 left of it", 1, x.has(2, 0));
        due("16 broken", 0, x.has(3, 5));
        due("16 day below", BAD, x.has(-1, 0));
        due("16 day above", BAD, x.has(40, 0));
        due("16 owner below", BAD, x.has(0, -1));
        due("16 owner above", BAD, x.has(0, 6));
    }

    private static void heard() {
        BreathSold x = with("a500n;b309n;a209n");
        x.act(1, JOIN, 1, 0);
        x.act(1, BREAK, 0, 0);
        x.act(1, BREAK, 0, 0);
        x.act(2, BREAK, 2, 0);
        due("17 ahead", 0, x.heard(0, 0));
        due("17 behind its leak", 44, x.heard(1, 0));
        due("17 joined", 30, x.heard(1, 1));
        due("17 in all", 64, x.heard(39, 0));
        due("17 never", 0, x.heard(39, 7));
        due("17 day below", BAD, x.heard(-1, 0));
        due("17 day above", BAD, x.heard(40, 0));
        due("17 voice below", BAD, x.heard(0, -1));
        due("17 voice above", BAD, x.heard(0, 8));
    }

    private static void spilled() {
        BreathSold x = with("a500s;b309s;b809s;c999n");
        x.hot(1);
        x.act(1, JOIN, 1, 0);
        due("18 ahead", 0, x.spilled(0, 1));
        due("18 behind the day's leak", 39, x.spilled(1, 0));
        due("18 each that holds so much", 26 + 80, x.spilled(1, 1));
        due("18 not on n", 0, x.spilled(39, 2));
        due("18 not heard", 0, x.heard(39, 0));
        due("18 empty", 0, x.holds(1, 0, NONE));
        due("18 day below", BAD, x.spilled(-1, 0));
        due("18 day above", BAD, x.spilled(40, 0));
        due("18 voice below", BAD, x.spilled(0, -1));
        due("18 voice above", BAD, x.spilled(0, 8));
    }

    private static void leaked() {
        BreathSold x = with("a500n;b305n;c011n");
        due("19 a day", 6 + 1, x.leaked(0));
        due("19 two days", 6 + 1 + 5 + 1, x.leaked(1));
        x.act(1, BREAK, 0, 0);
        due("19 a broken one leaks no more", 6 + 1 + 1, x.leaked(1));
        due("19 below", BAD, x.leaked(-1));
        due("19 above", BAD, x.leaked(40));
    }

    private static void lost() {
        BreathSold x = with("a020n;b309n;a309n;h309s");
        x.hot(4);
        x.burst(30);
        x.act(2, BREAK, 2, 0);
        due("20 none", 0, x.lost(0));
        due("20 there is another", 0, x.lost(1));
        due("20 leaked and broken", 1, x.lost(2));
        due("20 burst too", 129, x.lost(4));
        x.act(3, JOIN, 3, 1);
        due("20 joined is not lost", 1, x.lost(4));
        due("20 below", BAD, x.lost(-1));
        due("20 above", BAD, x.lost(40));
    }

    private static void works() {
        BreathSold x = with("a509n;b300n;c209n");
        int[][] acts = {
            {1, SALE, 0, 0, 1}, {1, SALE, 0, 3, 1}, {1, SALE, 0, 3, 0}, {1, SALE, 3, 3, 0},
            {2, CORKED, 0, 0, 0}, {2, CORKED, 1, 0, 1}, {2, CORKED, 1, 0, 0}, {2, CORKED, 7, 0, 0},
            {3, JOIN, 0, 0, 0}, {3, JOIN, 0, 1, 1}, {3, JOIN, 0, 3, 0}, {3, JOIN, 3, 0, 0},
            {4, BREAK, 1, 0, 1}, {4, BREAK, 1, 0, 0}, {4, JOIN, 2, 1, 0}, {0, SALE, 0, 3, 1},
        };
        for (int[] a : acts) {
            x.act(a[0], a[1], a[2], a[3]);
        }
        // The last one is on the earliest day, so the sale back to 0 on day 1 works too.
        for (int a = 0; a < acts.length; a++) {
            due("21 act " + a, acts[a][4], x.works(a));
        }
        due("21 below", BAD, x.works(-1));
        due("21 no such", BAD, x.works(16));
        x.back(0);
        due("21 undone", BAD, x.works(15));
        due("21 without the last", 0, x.works(0));
        BreathSold y = with("a509n;b309n");
        y.act(0, JOIN, 0, 1);
        y.act(0, JOIN, 0, 1);
        y.act(0, BREAK, 0, 0);
        due("21 a join of an empty one can be", 1, y.works(1));
        due("21 an empty one breaks", 1, y.works(2));
    }

    private static void row(BreathSold x, String song, int much, int... row) {
        x.wipe(1);
        typeAll(x, 1, song);
        due("22 how much for " + song, much, x.sing(3, NONE));
        for (int i = 0; i < 8; i++) {
            due("22 the " + i + "th of " + song, i < row.length ? row[i] : NONE, x.sing(3, i));
        }
    }

    private static void sing() {
        BreathSold x = with("a409n;b209n;a609n;b109n;c309n");
        x.act(0, JOIN, 3, 2);
        x.act(0, JOIN, 4, 0);
        row(x, "", 0);
        row(x, "a", 10, 2);
        row(x, "ab", 10, 2, 1);
        row(x, "ba", 10, 1, 2);
        row(x, "aa", 40, 0, 2);
        row(x, "bb", 60, 1, 2);
        row(x, "cab", 50, 0, 2, 1);
        row(x, "abb", 90, 0, 1, 2);
        row(x, "bbb", NONE);
        row(x, "d", NONE);
        row(x, "abababab", NONE);
        due("22 day below", BAD, x.sing(-1, 0));
        due("22 day above", BAD, x.sing(40, 0));
        due("22 below", BAD, x.sing(0, -2));
        due("22 above", BAD, x.sing(0, 8));
        BreathSold y = with("h019n;g029n;f039n;e049n;d059n;c069n;b079n;a089n", "abcdefgh");
        due("22 eight", 0, y.sing(39, NONE));
        for (int i = 0; i < 8; i++) {
            due("22 of eight", 7 - i, y.sing(39, i));
        }
    }

    private static void corksFor(BreathSold x, int day, String song, int many, int... row) {
        x.wipe(1);
        typeAll(x, 1, song);
        due("23 how many for " + song, many, x.corks(day, NONE));
        for (int i = 0; i < 3; i++) {
            due("23 the " + i + "th for " + song, i < row.length ? row[i] : NONE, x.corks(day, i));
        }
    }

    private static void corks() {
        BreathSold x = with("a050n;a050n;b050n;a050n");
        corksFor(x, 3, "ab", 0);
        corksFor(x, 4, "ab", 2, 0, 2);
        corksFor(x, 4, "a", 1, 0);
        corksFor(x, 4, "b", 1, 2);
        corksFor(x, 4, "aab", 3, 0, 1, 2);
        corksFor(x, 4, "aaab", NONE);
        corksFor(x, 4, "c", NONE);
        corksFor(x, 4, "", 0);
        due("23 day below", BAD, x.corks(-1, 0));
        due("23 day above", BAD, x.corks(40, 0));
        due("23 below", BAD, x.corks(0, -2));
        due("23 above", BAD, x.corks(0, 3));
        x.act(0, JOIN, 2, 3);
        corksFor(x, 39, "b", 1, 3);
        BreathSold y = with("a010n;b610s;b019n");
        y.hot(0);
        corksFor(y, 0, "ab", 1, 0);
        corksFor(y, 0, "bb", 0);
        // Corked, 1 holds 61 and bursts; open, its breath leaks on and is gone by day 39.
        corksFor(y, 39, "bb", NONE);
    }

    private static void most() {
        BreathSold x = with("a109n;a309n;a309n;b100n");
        due("24 the least of like ones", 1, x.most(0, 0));
        due("24 the only one", 3, x.most(0, 1));
        due("24 leaked", NONE, x.most(39, 1));
        due("24 never", NONE, x.most(0, 2));
        x.act(2, JOIN, 0, 2);
        due("24 joined", 2, x.most(2, 0));
        due("24 day below", BAD, x.most(-1, 0));
        due("24 day above", BAD, x.most(40, 0));
        due("24 voice below", BAD, x.most(0, -1));
        due("24 voice above", BAD, x.most(0, 8));
    }

    private static void weighed() {
        BreathSold x = new BreathSold();
        due("25 day below", BAD, x.weighed(-1, 0, 0));
        due("25 day above", BAD, x.weighed(40, 0, 0));
        due("25 bottle below", BAD, x.weighed(0, -1, 0));
        due("25 bottle above", BAD, x.weighed(0, 8, 0));
        due("25 much below", BAD, x.weighed(0, 0, -1));
        due("25 much above", BAD, x.weighed(0, 0, 1000));
        due("25 first", 1, x.weighed(39, 7, 999));
        for (int i = 1; i < 8; i++) {
            due("25 more", i + 1, x.weighed(0, 0, 0));
        }
        due("25 full", FULL, x.weighed(0, 0, 0));
        due("25 bad ahead of full", BAD, x.weighed(0, 0, 1000));
        due("25 eight", 8, x.count(7));
    }

    private static void forget() {
        BreathSold x = new BreathSold();
        due("26 none", 0, x.forget());
        x.weighed(0, 0, 0);
        x.weighed(0, 0, 0);
        due("26 two", 2, x.forget());
        due("26 forgotten", 0, x.count(7));
        due("26 anew", 1, x.weighed(0, 0, 0));
    }

    private static BreathSold weighing() {
        BreathSold x = with("a509n;b309n");
        x.act(2, JOIN, 0, 1);
        x.act(3, BREAK, 1, 0);
        x.act(1, SALE, 0, 2);
        return x;
    }

    private static void hid() {
        BreathSold x = weighing();
        due("27 nothing weighed", 7, x.hid());
        x.weighed(3, 1, 80);
        due("27 not broken", 2, x.hid());
        x.weighed(2, 0, 50);
        due("27 two at once", 0, x.hid());
        x.forget();
        x.weighed(2, 1, 30);
        x.weighed(2, 0, 50);
        due("27 not joined", 1, x.hid());
        x.forget();
        x.weighed(3, 1, 0);
        due("27 as told", 5, x.hid());
        x.weighed(0, 2, 0);
        due("27 of no bottle", 0, x.hid());
    }

    private static void swapped() {
        BreathSold x = with("a509n;b309n;c300s");
        due("28 below", BAD, x.swapped(-1));
        due("28 above", BAD, x.swapped(2));
        due("28 nothing weighed", 3, x.swapped(0));
        due("28 the least pair", 1, x.swapped(1));
        x.weighed(0, 0, 30);
        due("28 one", 1, x.swapped(0));
        due("28 0 and 1", 1, x.swapped(1));
        x.weighed(0, 2, 50);
        due("28 none", 0, x.swapped(0));
        due("28 no pair", NONE, x.swapped(1));
        x.forget();
        x.weighed(0, 1, 26);
        due("28 with its cork", 10, x.swapped(1));
        x.act(0, JOIN, 1, 0);
        x.forget();
        x.weighed(0, 0, 80);
        due("28 acts stay with the places", 2, x.swapped(0));
        due("28 the least of two", 1, x.swapped(1));
        BreathSold y = with("a609s;b109n");
        y.hot(0);
        due("28 bursts where it is", 0, y.whole(0, 0));
        y.weighed(0, 1, 0);
        due("28 with its shelf", 1, y.swapped(0));
    }

    private static void weigh() {
        BreathSold x = new BreathSold();
        due("29 no bottles", NONE, x.weigh(0));
        due("29 below", BAD, x.weigh(-1));
        due("29 above", BAD, x.weigh(40));
        BreathSold y = with("a509n;b309n;c209n");
        due("29 no acts", 0, y.weigh(0));
        y.act(0, JOIN, 0, 1);
        y.act(0, JOIN, 2, 1);
        y.act(0, SALE, 0, 1);
        due("29 tells all apart", 1, y.weigh(0));
        y.weighed(0, 0, 0);
        due("29 two acts are left", 1, y.weigh(0));
        y.weighed(0, 1, 80);
        due("29 one act is left", 0, y.weigh(0));
    }

    private static void fraction(BreathSold x, int c, int bottle, int day, long above, long below) {
        due("30 above by " + c + " up to " + day, above, x.heat(c, bottle, day, 0));
        due("30 below by " + c + " up to " + day, below, x.heat(c, bottle, day, 1));
    }

    private static void heat() {
        BreathSold x = with("a609s;b999n;c599s");
        x.hot(0);
        fraction(x, 0, 0, 9, 1, 1);
        fraction(x, 16, 0, 0, 0, 1);
        fraction(x, 5, 0, 0, 11, 16);
        fraction(x, 8, 0, 1, 1, 4);
        fraction(x, 1, 0, 9, 576650390625L, 1099511627776L);
        fraction(x, 15, 0, 9, 1, 1099511627776L);
        fraction(x, 16, 1, 9, 1, 1);
        fraction(x, 16, 2, 9, 1, 1);
        x.act(1, JOIN, 2, 0);
        x.act(3, BREAK, 0, 0);
        fraction(x, 4, 0, 2, 27, 64);
        fraction(x, 4, 0, 3, 0, 1);
        due("30 chance below", BAD_LONG, x.heat(-1, 0, 0, 0));
        due("30 chance above", BAD_LONG, x.heat(17, 0, 0, 0));
        due("30 bottle below", BAD_LONG, x.heat(0, -1, 0, 0));
        due("30 no such bottle", BAD_LONG, x.heat(0, 3, 0, 0));
        due("30 day below", BAD_LONG, x.heat(0, 0, -1, 0));
        due("30 day above", BAD_LONG, x.heat(0, 0, 10, 0));
        due("30 what below", BAD_LONG, x.heat(0, 0, 0, -1));
        due("30 what above", BAD_LONG, x.heat(0, 0, 0, 2));
        BreathSold y = with("a309s;b309s");
        y.act(1, JOIN, 0, 1);
        // Both hold 30 until day 1; then 1 holds 60.
        fraction(y, 8, 1, 0, 1, 1);
        fraction(y, 8, 1, 1, 1, 2);
        fraction(y, 8, 0, 9, 1, 1);
    }

    private static void market() {
        BreathSold x = with("a019n");
        // From seed 0 the second lot is 3554416254 by 65536, 54236, modulo 6.
        due("31 who has it", 2, x.market(0, 0, 0));
        due("31 it works", 1, x.market(0, 0, NONE));
        x.act(0, SALE, 0, 2);
        due("31 with it already", 0, x.market(0, 0, NONE));
        x.act(0, SALE, 0, 3);
        due("31 behind all others", 2, x.market(0, 0, 0));
        due("31 it works again", 1, x.market(0, 0, NONE));
        due("31 nothing is told by it", 3, x.who(0, 0));
        due("31 day below", BAD, x.market(0, -1, 0));
        due("31 day above", BAD, x.market(0, 40, 0));
        due("31 bottle below", BAD, x.market(0, 0, -2));
        due("31 no such", BAD, x.market(0, 0, 1));
        due("31 no bottles", 0, new BreathSold().market(5, 39, NONE));
        due("31 a seed below 0", BAD, x.market(-5, 0, 7));
    }

    private static void sheet() {
        BreathSold x = new BreathSold();
        due("32 sheet below", BAD, x.sheet(-1, 0, 0));
        due("32 sheet above", BAD, x.sheet(4, 0, 0));
        due("32 form below", BAD, x.sheet(0, -1, 0));
        due("32 form above", BAD, x.sheet(0, 3, 0));
        due("32 above 60", BAD, x.sheet(0, 0, 61));
        due("32 bad ahead of size", BAD, x.sheet(0, 3, -1));
        due("32 no finding", 0, x.count(8));
        due("32 size", SIZE_FOUND, x.sheet(0, 0, -1));
        due("32 finding", 5, x.count(8));
        due("32 still lost", NULL_FOUND, x.put(0, 0, 0, 1));
        due("32 none", 0, x.sheet(0, 0, 0));
        due("32 no item", INDEX_FOUND, x.put(0, 0, 0, 1));
        due("32 sixty", 60, x.sheet(3, 2, 60));
        x.put(3, 2, 59, 7);
        due("32 the last", 7, x.get(3, 2, 59));
        due("32 new", 60, x.sheet(3, 2, 60));
        due("32 0 at first", 0, x.get(3, 2, 59));
    }

    private static void lose() {
        BreathSold x = new BreathSold();
        due("33 below", BAD, x.lose(-1));
        due("33 above", BAD, x.lose(4));
        due("33 lost", NULL_FOUND, x.lose(2));
        due("33 finding", 1, x.count(8));
        x.sheet(2, 1, 9);
        due("33 items", 9, x.lose(2));
        due("33 lost again", NULL_FOUND, x.lose(2));
    }

    private static void put() {
        BreathSold x = new BreathSold();
        due("34 sheet below", BAD, x.put(-1, 0, 0, 0));
        due("34 sheet above", BAD, x.put(4, 0, 0, 0));
        due("34 form below", BAD, x.put(0, -1, 0, 0));
        due("34 form above", BAD, x.put(0, 3, 0, 0));
        due("34 lost", NULL_FOUND, x.put(0, 0, 0, 0));
        x.sheet(0, 0, 3);
        x.sheet(1, 1, 3);
        x.sheet(2, 2, 3);
        due("34 cast ahead of index", CAST_FOUND, x.put(0, 1, 9, 0));
        due("34 finding", 3, x.count(8));
        due("34 index below", INDEX_FOUND, x.put(0, 0, -1, 0));
        due("34 index above", INDEX_FOUND, x.put(0, 0, 3, 0));
        due("34 finding of index", 2, x.count(8));
        due("34 byte", 1, x.put(0, 0, 2, 0x12345680));
        due("34 its lowest bits", -128, x.get(0, 0, 2));
        due("34 short", 1, x.put(1, 1, 2, 0x12348001));
        due("34 its lowest 16", -32767, x.get(1, 1, 2));
        due("34 int", 1, x.put(2, 2, 2, 0x12348001));
        due("34 all of it", 0x12348001, x.get(2, 2, 2));
        due("34 others stay", 0, x.get(2, 2, 1));
    }

    private static void get() {
        BreathSold x = new BreathSold();
        due("35 sheet below", LEAST_INT, x.get(-1, 0, 0));
        due("35 sheet above", LEAST_INT, x.get(4, 0, 0));
        due("35 form below", LEAST_INT, x.get(0, -1, 0));
        due("35 form above", LEAST_INT, x.get(0, 3, 0));
        due("35 bad is no finding", 0, x.count(8));
        due("35 lost", LEAST_INT, x.get(0, 0, 0));
        due("35 null", 1, x.count(8));
        fill(x, 0, 1, 5, -6);
        due("35 another form", LEAST_INT, x.get(0, 2, 0));
        due("35 cast", 3, x.count(8));
        due("35 below", LEAST_INT, x.get(0, 1, -1));
        due("35 index", 2, x.count(8));
        due("35 cast ahead of index", LEAST_INT, x.get(0, 2, 7));
        due("35 cast again", 3, x.count(8));
        due("35 above", LEAST_INT, x.get(0, 1, 2));
        due("35 index again", 2, x.count(8));
        due("35 item", -6, x.get(0, 1, 1));
        due("35 the finding stays", 2, x.count(8));
    }

    private static void copy() {
        BreathSold x = new BreathSold();
        due("36 from below", BAD, x.copy(-1, 0, 0, 0, 0));
        due("36 from above", BAD, x.copy(4, 0, 0, 0, 0));
        due("36 to below", BAD, x.copy(0, 0, -1, 0, 0));
        due("36 to above", BAD, x.copy(0, 0, 4, 0, 0));
        due("36 lost", NULL_FOUND, x.copy(0, 0, 0, 0, 0));
        fill(x, 0, 0, 1, 2, 3, 4, 5);
        due("36 the other is lost", NULL_FOUND, x.copy(0, 0, 1, 0, 0));
        due("36 from a lost one", NULL_FOUND, x.copy(1, 0, 0, 0, 0));
        fill(x, 1, 1, 9, 9);
        due("36 unlike, ahead of index", STORE_FOUND, x.copy(0, -1, 1, 0, 99));
        due("36 finding", 4, x.count(8));
        fill(x, 2, 0, 7, 8);
        due("36 n below", INDEX_FOUND, x.copy(0, 0, 2, 0, -1));
        due("36 finding of index", 2, x.count(8));
        due("36 i below", INDEX_FOUND, x.copy(0, -1, 2, 0, 1));
        due("36 j below", INDEX_FOUND, x.copy(0, 0, 2, -1, 1));
        due("36 not so many to go to", INDEX_FOUND, x.copy(0, 0, 2, 0, 3));
        due("36 not so many to come", INDEX_FOUND, x.copy(2, 1, 0, 0, 2));
        due("36 far off", INDEX_FOUND, x.copy(0, Integer.MAX_VALUE, 2, 0, Integer.MAX_VALUE));
        due("36 behind the end", INDEX_FOUND, x.copy(0, 6, 2, 0, 0));
        due("36 none at the end", 1, x.copy(0, 5, 2, 2, 0));
        due("36 nothing has come", 7, x.get(2, 0, 0));
        due("36 two", 1, x.copy(0, 3, 2, 0, 2));
        due("36 the first", 4, x.get(2, 0, 0));
        due("36 the second", 5, x.get(2, 0, 1));
        due("36 within one", 1, x.copy(0, 0, 0, 1, 4));
        int[] moved = {1, 1, 2, 3, 4};
        for (int i = 0; i < moved.length; i++) {
            due("36 as they were " + i, moved[i], x.get(0, 0, i));
        }
    }

    private static void write() {
        BreathSold x = with("a500n;b990n");
        due("37 bottle below", BAD, x.write(-1, 0));
        due("37 no such bottle", BAD, x.write(2, 0));
        due("37 sheet below", BAD, x.write(0, -1));
        due("37 sheet above", BAD, x.write(0, 4));
        due("37 lost", NULL_FOUND, x.write(0, 0));
        due("37 bad ahead of null", BAD, x.write(2, 0));
        fill(x, 0, 2, 7, 7, 7);
        due("37 as many as there are", 3, x.write(0, 0));
        due("37 day 0", 44, x.get(0, 2, 0));
        due("37 day 1", 39, x.get(0, 2, 1));
        due("37 day 2", 35, x.get(0, 2, 2));
        x.sheet(1, 1, 60);
        x.put(1, 1, 40, 5);
        due("37 forty", 40, x.write(1, 1));
        due("37 first of forty", 89, x.get(1, 1, 0));
        due("37 last of forty", 0, x.get(1, 1, 39));
        due("37 behind forty", 5, x.get(1, 1, 40));
        x.sheet(2, 0, 0);
        due("37 no items", 0, x.write(0, 2));
        BreathSold y = with("a999n;a999n");
        y.act(0, JOIN, 0, 1);
        y.sheet(0, 0, 1);
        y.write(1, 0);
        due("37 a byte's lowest bits", 197 - 256, y.get(0, 0, 0));
    }

    private static void count() {
        BreathSold x = with("a509n;b309s", "abc");
        x.act(0, SALE, 0, 1);
        x.act(0, SALE, 0, 1);
        x.act(39, BREAK, 0, 0);
        x.hot(1);
        x.weighed(0, 0, 0);
        x.lose(0);
        int[] due = {2, 3, 11, 3, 3, 2, 1, 1, 1};
        for (int what = 0; what < due.length; what++) {
            due("38 what " + what, due[what], x.count(what));
        }
        due("38 below", BAD, x.count(-1));
        due("38 above", BAD, x.count(9));
        x.type(0, 'x');
        x.type(1, 'x');
        due("38 no bottles by a fault", 0, x.count(0));
        due("38 no letters by a fault", 0, x.count(1));
        due("38 its bytes", 12, x.count(2));
        due("38 the song's bytes", 4, x.count(3));
        due("38 none works", 0, x.count(5));
    }

    private static long mix(long h, long... each) {
        for (long e : each) {
            h = 31 * h + e;
        }
        return h;
    }

    private static long digestOf(BreathSold x) {
        long h = 17;
        for (int what = 0; what <= 7; what++) {
            h = mix(h, x.count(what));
        }
        h = mix(h, x.fault(0), x.fault(1));
        for (int b = 0; b < x.count(0); b++) {
            h = mix(h, x.bottle(b, 0), x.bottle(b, 1), x.bottle(b, 2), x.bottle(b, 3), x.holds(5, b, NONE),
                x.holds(39, b, NONE), x.who(9, b), x.whole(39, b), x.heat(5, b, 6, 0), x.heat(5, b, 6, 1),
                x.market(7, 20, b));
        }
        for (int i = 0; i < x.count(1); i++) {
            h = mix(h, x.note(i));
        }
        for (int v = 0; v < 8; v++) {
            h = mix(h, x.heard(39, v), x.spilled(39, v), x.most(5, v));
        }
        for (int o = 0; o < 6; o++) {
            h = mix(h, x.has(9, o));
        }
        for (int day : new int[] {0, 5, 39}) {
            h = mix(h, x.leaked(day), x.lost(day), x.sing(day, NONE), x.sing(day, 0), x.corks(day, NONE),
                x.corks(day, 0), x.weigh(day));
        }
        for (int a = 0; a < x.count(4); a++) {
            h = mix(h, x.works(a));
        }
        return mix(h, x.hid(), x.swapped(0), x.swapped(1), x.market(7, 20, NONE));
    }

    private static void digest() {
        BreathSold x = new BreathSold();
        due("39 empty", digestOf(x), x.digest());
        typeAll(x, 0, "a999s;b805s;c700n");
        typeAll(x, 1, "ba");
        x.act(1, JOIN, 2, 0);
        x.act(6, BREAK, 1, 0);
        x.act(0, SALE, 1, 4);
        x.hot(8);
        x.weighed(3, 1, 60);
        due("39 ordinary", digestOf(x), x.digest());
        due("39 the same again", x.digest(), x.digest());
        x.type(0, ';');
        due("39 a fault", digestOf(x), x.digest());
        long before = x.digest();
        x.lose(0);
        due("39 without findings", before, x.digest());
    }

    /** A refused call changes nothing. */
    private static void refusals() {
        BreathSold x = with("a999s;b805s;c700n", "ba");
        x.act(1, JOIN, 2, 0);
        x.hot(8);
        long before = x.digest();
        x.type(0, 256);
        x.type(2, 97);
        x.wipe(5);
        x.undo(-1);
        x.burst(0);
        x.hot(40);
        x.act(0, BREAK, 0, 1);
        x.back(2);
        x.read(0);
        x.weighed(0, 0, 1000);
        x.sheet(0, 0, -1);
        x.write(0, 0);
        due("a refused call changes nothing", before, x.digest());
        due("but the finding", 1, x.count(8));
    }
}
