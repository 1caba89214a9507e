/** The edges of promises 32 to 39: sheets, counts, the digest. */
public final class SheetsEdgesTest extends Edges {
    public static void main(String[] args) throws IllegalAccessException {
        runAll(SheetsEdgesTest.class, 32, 39);
    }

    // ---- 32 sheet: "A SHEET is a new row of a FORM with n items: n. BAD: SHEET, FORM, above 60; SIZE."

    static void promise32NoSuchSheet() {
        refusedBeyond(0, 3, BAD, (x, s) -> x.sheet(s, BYTES, 5));
    }

    static void promise32NoSuchForm() {
        refusedBeyond(0, 2, BAD, (x, form) -> x.sheet(0, form, 5));
    }

    static void promise32Above60() {
        refused(BAD, x -> x.sheet(0, BYTES, 61));
        refused(BAD, x -> x.sheet(3, INTS, 61));
        refused(BAD, x -> x.sheet(0, BYTES, GREATEST));
    }

    static void promise32SizeBelow0() {
        found(SIZE_FOUND, 5, x -> x.sheet(0, BYTES, -1));
        found(SIZE_FOUND, 5, x -> x.sheet(3, INTS, -1));
        found(SIZE_FOUND, 5, x -> x.sheet(0, BYTES, LEAST));
    }

    static void promise32BadAheadOfSize() {
        refused(BAD, x -> x.sheet(4, BYTES, -1));
        refused(BAD, x -> x.sheet(-1, BYTES, -1));
        refused(BAD, x -> x.sheet(0, 3, -1));
        refused(BAD, x -> x.sheet(0, -1, -1));
    }

    static void promise32NoItems() {
        BreathSold x = new BreathSold();
        due(0, x.sheet(0, BYTES, 0));
        due("item 0", INDEX_FOUND, x.put(0, BYTES, 0, 1));
        due("it is not lost", 0, x.lose(0));
    }

    static void promise32OneItem() {
        BreathSold x = new BreathSold();
        due(1, x.sheet(0, BYTES, 1));
        due(1, x.put(0, BYTES, 0, 1));
        due(INDEX_FOUND, x.put(0, BYTES, 1, 1));
    }

    static void promise32SixtyItems() {
        for (int form = 0; form < 3; form++) {
            BreathSold x = new BreathSold();
            due(60, x.sheet(3, form, 60));
            due("the last", 1, x.put(3, form, 59, 7));
            due("behind it", INDEX_FOUND, x.put(3, form, 60, 7));
            due("the last", 7, x.get(3, form, 59));
        }
    }

    static void promise32EachSheetByItself() {
        BreathSold x = new BreathSold();
        for (int s = 0; s < 4; s++) {
            due(s + 1, x.sheet(s, s % 3, s + 1));
            x.put(s, s % 3, s, 10 + s);
        }
        for (int s = 0; s < 4; s++) {
            due("the last of " + s, 10 + s, x.get(s, s % 3, s));
            due("items of " + s, s + 1, x.lose(s));
        }
    }

    static void promise32ItemsAre0AtFirst() {
        BreathSold x = new BreathSold();
        x.sheet(0, INTS, 60);
        for (int i = 0; i < 60; i++) {
            due("item " + i, 0, x.get(0, INTS, i));
        }
    }

    static void promise32ANewRowIs0Again() {
        BreathSold x = new BreathSold();
        fill(x, 0, INTS, 1, 2, 3);
        due(3, x.sheet(0, INTS, 3));
        dueItems(x, 0, INTS, 0, 0, 0);
        fill(x, 0, INTS, 1, 2, 3);
        x.lose(0);
        x.sheet(0, SHORTS, 3);
        dueItems(x, 0, SHORTS, 0, 0, 0);
        fill(x, 0, SHORTS, 4, 5, 6);
        x.sheet(0, SHORTS, 1);
        x.sheet(0, SHORTS, 3);
        dueItems(x, 0, SHORTS, 0, 0, 0);
    }

    static void promise32ANewRowOfAnotherForm() {
        BreathSold x = new BreathSold();
        x.sheet(0, BYTES, 3);
        due(2, x.sheet(0, INTS, 2));
        due("no bytes any more", CAST_FOUND, x.put(0, BYTES, 0, 1));
        due("ints", 1, x.put(0, INTS, 0, 1));
        due("two of them", INDEX_FOUND, x.put(0, INTS, 2, 1));
    }

    // ---- 33 lose: "It is LOST: how many items it had. BAD; NULL."

    static void promise33NoSuchSheet() {
        refusedBeyond(0, 3, BAD, (x, s) -> x.lose(s));
    }

    static void promise33ALostSheet() {
        found(NULL_FOUND, 1, x -> x.lose(3));
    }

    static void promise33NoneAndSixty() {
        BreathSold x = new BreathSold();
        x.sheet(0, BYTES, 0);
        due(0, x.lose(0));
        due("lost by then", NULL_FOUND, x.lose(0));
        x.sheet(0, INTS, 60);
        due(60, x.lose(0));
        due("lost by then", NULL_FOUND, x.lose(0));
    }

    static void promise33TheOthersStay() {
        BreathSold x = busy();
        due(3, x.lose(1));
        dueItems(x, 0, BYTES, 3, SALE, 0, 5, -7);
        dueItems(x, 2, INTS, 70000, -70000, 2, 1);
        due("lost", NULL_FOUND, x.put(1, SHORTS, 0, 0));
    }

    // ---- 34 put: "Item i, treated as of a FORM, becomes v (the lowest bits that it has): 1. BAD; NULL; CAST; INDEX."

    static void promise34NoSuchSheet() {
        refusedBeyond(0, 3, BAD, (x, s) -> x.put(s, BYTES, 0, 9));
    }

    static void promise34NoSuchForm() {
        refusedBeyond(0, 2, BAD, (x, form) -> x.put(0, form, 0, 9));
    }

    static void promise34BadAheadOfTheRest() {
        refused(BAD, x -> x.put(3, 3, 0, 9));
        refused(BAD, x -> x.put(3, -1, 99, 9));
        refused(BAD, x -> x.put(0, 3, 99, 9));
    }

    static void promise34ALostSheet() {
        for (int form = 0; form < 3; form++) {
            int f = form;
            found(NULL_FOUND, 1, x -> x.put(3, f, 0, 9));
        }
    }

    static void promise34NullAheadOfIndex() {
        found(NULL_FOUND, 1, x -> x.put(3, BYTES, -1, 9));
        found(NULL_FOUND, 1, x -> x.put(3, BYTES, 60, 9));
    }

    static void promise34AnotherForm() {
        for (int s = 0; s < 3; s++) {
            int sheet = s;
            found(CAST_FOUND, 3, x -> x.put(sheet, (sheet + 1) % 3, 0, 9));
            found(CAST_FOUND, 3, x -> x.put(sheet, (sheet + 2) % 3, 0, 9));
        }
    }

    static void promise34CastAheadOfIndex() {
        found(CAST_FOUND, 3, x -> x.put(0, SHORTS, 5, 9));
        found(CAST_FOUND, 3, x -> x.put(0, SHORTS, -1, 9));
    }

    static void promise34NoSuchItem() {
        refusedItems((x, i) -> x.put(0, BYTES, i, 9), 5);
        refusedItems((x, i) -> x.put(1, SHORTS, i, 9), 3);
        refusedItems((x, i) -> x.put(2, INTS, i, 9), 4);
    }

    private static void refusedItems(Taking call, int items) {
        for (int i : new int[] {-1, items, LEAST, GREATEST}) {
            found(INDEX_FOUND, 2, x -> call.with(x, i));
        }
    }

    static void promise34TheFirstAndTheLastItem() {
        BreathSold x = busy();
        due(1, x.put(0, BYTES, 0, 11));
        due(1, x.put(0, BYTES, 4, 12));
        dueItems(x, 0, BYTES, 11, SALE, 0, 5, 12);
    }

    private static void becomes(int form, int v, int item) {
        BreathSold x = new BreathSold();
        fill(x, 0, form, 5, 6, 7);
        due(1, x.put(0, form, 1, v));
        dueItems(x, 0, form, 5, item, 7);
    }

    static void promise34BytesGoRound() {
        becomes(BYTES, 127, 127);
        becomes(BYTES, 128, -128);
        becomes(BYTES, 255, -1);
        becomes(BYTES, 256, 0);
        becomes(BYTES, -128, -128);
        becomes(BYTES, -129, 127);
        becomes(BYTES, GREATEST, -1);
        becomes(BYTES, LEAST, 0);
    }

    static void promise34ShortsGoRound() {
        becomes(SHORTS, 32767, 32767);
        becomes(SHORTS, 32768, -32768);
        becomes(SHORTS, 65535, -1);
        becomes(SHORTS, 65536, 0);
        becomes(SHORTS, -32768, -32768);
        becomes(SHORTS, -32769, 32767);
        becomes(SHORTS, GREATEST, -1);
        becomes(SHORTS, LEAST, 0);
        becomes(SHORTS, 128, 128);
    }

    static void promise34IntsHaveAllBits() {
        becomes(INTS, GREATEST, GREATEST);
        becomes(INTS, LEAST, LEAST);
        becomes(INTS, -1, -1);
        becomes(INTS, 65536, 65536);
    }

    // ---- 35 get: "Item i of it. BAD: the least int; so are NULL, CAST, INDEX (count() 8 tells)."

    static void promise35NoSuchSheet() {
        refusedBeyond(0, 3, LEAST, (x, s) -> x.get(s, BYTES, 0));
    }

    static void promise35NoSuchForm() {
        refusedBeyond(0, 2, LEAST, (x, form) -> x.get(0, form, 0));
    }

    static void promise35BadAheadOfTheRest() {
        refused(LEAST, x -> x.get(3, 3, 0));
        refused(LEAST, x -> x.get(0, -1, 99));
    }

    static void promise35ALostSheet() {
        for (int form = 0; form < 3; form++) {
            int f = form;
            found(LEAST, 1, x -> x.get(3, f, 0));
        }
    }

    static void promise35NullAheadOfIndex() {
        found(LEAST, 1, x -> x.get(3, BYTES, -1));
        found(LEAST, 1, x -> x.get(3, BYTES, 60));
    }

    static void promise35AnotherForm() {
        for (int s = 0; s < 3; s++) {
            int sheet = s;
            found(LEAST, 3, x -> x.get(sheet, (sheet + 1) % 3, 0));
            found(LEAST, 3, x -> x.get(sheet, (sheet + 2) % 3, 0));
        }
    }

    static void promise35CastAheadOfIndex() {
        found(LEAST, 3, x -> x.get(0, SHORTS, 5));
        found(LEAST, 3, x -> x.get(0, SHORTS, -1));
    }

    static void promise35NoSuchItem() {
        for (int i : new int[] {-1, 5, LEAST, GREATEST}) {
            found(LEAST, 2, x -> x.get(0, BYTES, i));
        }
        found(LEAST, 2, x -> x.get(1, SHORTS, 3));
        found(LEAST, 2, x -> x.get(2, INTS, 4));
    }

    static void promise35TheFirstAndTheLastItem() {
        BreathSold x = busy();
        due(3, x.get(0, BYTES, 0));
        due(-7, x.get(0, BYTES, 4));
        due(300, x.get(1, SHORTS, 0));
        due(1, x.get(1, SHORTS, 2));
        due(70000, x.get(2, INTS, 0));
        due(1, x.get(2, INTS, 3));
    }

    static void promise35TheLeastIntIsAnItemToo() {
        BreathSold x = new BreathSold();
        fill(x, 0, INTS, LEAST);
        due(LEAST, x.get(0, INTS, 0));
        due("no finding", 0, x.count(8));
    }

    static void promise35AskingChangesNothing() {
        asked(x -> x.get(0, BYTES, 0));
    }

    // ---- 36 copy: "n items of SHEET s, from i on, come to SHEET t (perhaps s, as they were), from j on: 1. BAD: the SHEETS;
    // NULL: s, t; STORE; INDEX: below 0, not so many."

    /** Sheets 0 and 1 of one form with 5 and 3 items. */
    private static BreathSold two() {
        BreathSold x = new BreathSold();
        fill(x, 0, SHORTS, 1, 2, 3, 4, 5);
        fill(x, 1, SHORTS, 7, 8, 9);
        return x;
    }

    private static void foundIndex(int i, int j, int n) {
        BreathSold x = two();
        due("from " + i + " to " + j + ", " + n, INDEX_FOUND, x.copy(0, i, 1, j, n));
        due("the finding", 2, x.count(8));
        dueItems(x, 0, SHORTS, 1, 2, 3, 4, 5);
        dueItems(x, 1, SHORTS, 7, 8, 9);
    }

    static void promise36NoSuchSheet() {
        refusedBeyond(0, 3, BAD, (x, s) -> x.copy(s, 0, 0, 0, 1));
        refusedBeyond(0, 3, BAD, (x, t) -> x.copy(0, 0, t, 0, 1));
    }

    static void promise36BadAheadOfTheRest() {
        refused(BAD, x -> x.copy(3, 0, 4, 0, 1));
        refused(BAD, x -> x.copy(4, 0, 3, 0, 1));
        refused(BAD, x -> x.copy(0, -1, 4, -1, -1));
    }

    static void promise36ALostSheet() {
        found(NULL_FOUND, 1, x -> x.copy(3, 0, 0, 0, 1));
        found(NULL_FOUND, 1, x -> x.copy(0, 0, 3, 0, 1));
        found(NULL_FOUND, 1, x -> x.copy(3, 0, 3, 0, 0));
    }

    static void promise36NullAheadOfIndex() {
        found(NULL_FOUND, 1, x -> x.copy(3, -1, 0, 0, 1));
        found(NULL_FOUND, 1, x -> x.copy(0, 0, 3, 0, 61));
    }

    static void promise36UnlikeForms() {
        for (int s = 0; s < 3; s++) {
            int from = s;
            found(STORE_FOUND, 4, x -> x.copy(from, 0, (from + 1) % 3, 0, 1));
            found(STORE_FOUND, 4, x -> x.copy(from, 0, (from + 2) % 3, 0, 1));
        }
    }

    static void promise36StoreOfNoItems() {
        found(STORE_FOUND, 4, x -> x.copy(0, 0, 1, 0, 0));
    }

    static void promise36StoreAheadOfIndex() {
        found(STORE_FOUND, 4, x -> x.copy(0, -1, 1, 0, 1));
        found(STORE_FOUND, 4, x -> x.copy(0, 0, 1, 0, 61));
    }

    static void promise36Below0() {
        foundIndex(-1, 0, 1);
        foundIndex(0, -1, 1);
        foundIndex(0, 0, -1);
        foundIndex(-1, 0, 0);
        foundIndex(0, -1, 0);
        foundIndex(LEAST, 0, 1);
        foundIndex(0, LEAST, 1);
        foundIndex(0, 0, LEAST);
        foundIndex(1, 1, -1);
    }

    static void promise36NotSoManyToTake() {
        BreathSold x = two();
        due("the last two", 1, x.copy(1, 1, 0, 0, 2));
        due("three from 1 on", INDEX_FOUND, x.copy(1, 1, 0, 0, 3));
        due("one behind the end", INDEX_FOUND, x.copy(1, 3, 0, 0, 1));
        due("none far behind", INDEX_FOUND, x.copy(1, 4, 0, 0, 0));
        dueItems(x, 0, SHORTS, 8, 9, 3, 4, 5);
    }

    static void promise36NotSoManyToGoTo() {
        foundIndex(0, 0, 4);
        foundIndex(0, 1, 3);
        foundIndex(0, 3, 1);
        foundIndex(0, 4, 0);
        foundIndex(0, 0, 6);
    }

    static void promise36FarNumbersDoNotGoRound() {
        foundIndex(GREATEST, 0, 1);
        foundIndex(0, GREATEST, 1);
        foundIndex(0, 0, GREATEST);
        foundIndex(GREATEST, 0, GREATEST);
        foundIndex(1, 1, GREATEST);
        foundIndex(GREATEST, GREATEST, 2);
        foundIndex(LEAST, 0, GREATEST);
        foundIndex(5, 0, LEAST);
    }

    static void promise36NoItems() {
        BreathSold x = two();
        due("at the beginning", 1, x.copy(0, 0, 1, 0, 0));
        due("at the end", 1, x.copy(0, 5, 1, 3, 0));
        due("behind it", INDEX_FOUND, x.copy(0, 6, 1, 3, 0));
        dueItems(x, 1, SHORTS, 7, 8, 9);
        x.sheet(2, SHORTS, 0);
        due("of none", 1, x.copy(2, 0, 2, 0, 0));
        due("one of none", INDEX_FOUND, x.copy(2, 0, 2, 0, 1));
    }

    static void promise36AllItems() {
        BreathSold x = two();
        due(1, x.copy(0, 2, 1, 0, 3));
        dueItems(x, 1, SHORTS, 3, 4, 5);
        dueItems(x, 0, SHORTS, 1, 2, 3, 4, 5);
    }

    static void promise36OneItem() {
        BreathSold x = two();
        due(1, x.copy(0, 4, 1, 2, 1));
        dueItems(x, 1, SHORTS, 7, 8, 5);
    }

    static void promise36WithinOneAsTheyWere() {
        BreathSold x = two();
        due(1, x.copy(0, 0, 0, 1, 4));
        dueItems(x, 0, SHORTS, 1, 1, 2, 3, 4);
        BreathSold y = two();
        due(1, y.copy(0, 1, 0, 0, 4));
        dueItems(y, 0, SHORTS, 2, 3, 4, 5, 5);
        BreathSold z = two();
        due(1, z.copy(0, 0, 0, 0, 5));
        dueItems(z, 0, SHORTS, 1, 2, 3, 4, 5);
    }

    static void promise36SixtyItems() {
        BreathSold x = new BreathSold();
        x.sheet(0, BYTES, 60);
        x.sheet(3, BYTES, 60);
        for (int i = 0; i < 60; i++) {
            x.put(0, BYTES, i, i + 1);
        }
        due(INDEX_FOUND, x.copy(0, 0, 3, 0, 61));
        due(INDEX_FOUND, x.copy(0, 1, 3, 0, 60));
        due(INDEX_FOUND, x.copy(0, 0, 3, 1, 60));
        due(1, x.copy(0, 0, 3, 0, 60));
        for (int i = 0; i < 60; i++) {
            due("item " + i, i + 1, x.get(3, BYTES, i));
        }
    }

    // ---- 37 write: "How much a BOTTLE holds, altogether, behind DAYS 0 on comes to a SHEET from item 0 on, as many as there
    // are items, 40 at most: how many. BAD; NULL."

    static void promise37NoSuchBottle() {
        refusedBeyond(0, 3, BAD, (x, b) -> x.write(b, 0));
        due("no bottles", BAD, new BreathSold().write(0, 0));
    }

    static void promise37NoSuchSheet() {
        refusedBeyond(0, 3, BAD, (x, s) -> x.write(0, s));
    }

    static void promise37ALostSheet() {
        found(NULL_FOUND, 1, x -> x.write(0, 3));
    }

    static void promise37BadAheadOfNull() {
        refused(BAD, x -> x.write(4, 3));
        refused(BAD, x -> x.write(-1, 3));
    }

    static void promise37NoItems() {
        BreathSold x = with("a990n");
        x.sheet(0, INTS, 0);
        due(0, x.write(0, 0));
    }

    static void promise37AsManyAsThereAre() {
        BreathSold x = with("a109n;b990n");
        x.sheet(0, INTS, 1);
        due(1, x.write(1, 0));
        dueItems(x, 0, INTS, 89);
        x.sheet(0, INTS, 3);
        due(3, x.write(1, 0));
        dueItems(x, 0, INTS, 89, 80, 71);
    }

    private static void writesDays(int items, int many) {
        BreathSold x = with("a998n");
        x.sheet(0, SHORTS, items);
        for (int i = 0; i < items; i++) {
            x.put(0, SHORTS, i, 500 + i);
        }
        due(items + " items", many, x.write(0, 0));
        for (int i = 0; i < items; i++) {
            due("item " + i, i < many ? 98 - i : 500 + i, x.get(0, SHORTS, i));
        }
    }

    static void promise37FortyAtMost() {
        writesDays(39, 39);
        writesDays(40, 40);
        writesDays(41, 40);
        writesDays(60, 40);
    }

    static void promise37TheLastOfEightBottles() {
        BreathSold x = with(EIGHT);
        x.sheet(0, BYTES, 2);
        due(2, x.write(7, 0));
        dueItems(x, 0, BYTES, 12, 12);
        due("a ninth", BAD, x.write(8, 0));
    }

    static void promise37BytesGoRound() {
        BreathSold x = with("a999n;b289n;c019n");
        x.act(1, JOIN, 1, 0);
        x.act(2, JOIN, 2, 0);
        x.sheet(0, BYTES, 3);
        due(3, x.write(0, 0));
        dueItems(x, 0, BYTES, 99, 127, -128);
        x.sheet(0, SHORTS, 3);
        x.write(0, 0);
        dueItems(x, 0, SHORTS, 99, 127, 128);
    }

    static void promise37OfABrokenOneNothing() {
        BreathSold x = with("a109n");
        x.act(1, BREAK, 0, 0);
        fill(x, 0, INTS, 7, 7, 7);
        due(3, x.write(0, 0));
        dueItems(x, 0, INTS, 10, 0, 0);
    }

    // ---- 38 count: "0 BOTTLES, 1 letters of THE SONG, 2, 3 bytes of texts, 4 ACTS, 5 those that WORK, 6 HOT DAYS, 7 WEIGHED,
    // 8 the number of the latest FINDING (0 before any). BAD."

    static void promise38NoSuchWhat() {
        refusedBeyond(0, 8, BAD, (x, what) -> x.count(what));
    }

    private static void dueCounts(BreathSold x, int... counts) {
        for (int what = 0; what < counts.length; what++) {
            due("count " + what, counts[what], x.count(what));
        }
    }

    static void promise38NothingThereYet() {
        dueCounts(new BreathSold(), 0, 0, 0, 0, 0, 0, 0, 0, 0);
    }

    static void promise38AllFull() {
        BreathSold x = with(EIGHT, "hgfedcba");
        for (int a = 0; a < 16; a++) {
            x.act(a, SALE, 0, 1 + a % 2);
            x.hot(a);
            x.weighed(0, 0, 0);
        }
        dueCounts(x, 8, 8, 47, 8, 16, 16, 8, 8, 0);
    }

    static void promise38BytesWithAFault() {
        BreathSold x = with("a109n", "ab");
        x.type(0, ';');
        x.type(1, ';');
        dueCounts(x, 0, 0, 6, 3, 0, 0, 0, 0, 0);
    }

    static void promise38ThoseThatWork() {
        BreathSold x = with("a109n");
        x.act(39, BREAK, 0, 0);
        x.act(0, SALE, 0, 0);
        x.act(0, SALE, 0, 1);
        x.act(0, BREAK, 1, 0);
        dueCounts(x, 1, 0, 5, 0, 4, 2, 0, 0, 0);
        x.wipe(0);
        due("without bottles", 0, x.count(5));
    }

    static void promise38EachFinding() {
        BreathSold x = new BreathSold();
        x.sheet(0, BYTES, 1);
        x.sheet(1, INTS, 1);
        due("before any", 0, x.count(8));
        x.lose(3);
        due("NULL", 1, x.count(8));
        x.put(0, BYTES, 1, 0);
        due("INDEX", 2, x.count(8));
        x.put(0, INTS, 0, 0);
        due("CAST", 3, x.count(8));
        x.copy(0, 0, 1, 0, 1);
        due("STORE", 4, x.count(8));
        x.sheet(0, BYTES, -1);
        due("SIZE", 5, x.count(8));
        x.lose(3);
        due("the latest", 1, x.count(8));
    }

    static void promise38OtherRefusalsAreNoFindings() {
        BreathSold x = full();
        x.lose(3);
        x.type(0, 'a');
        x.undo(2);
        x.hot(0);
        x.act(0, SALE, 0, 0);
        x.get(4, 0, 0);
        x.back(2);
        due(1, x.count(8));
    }

    static void promise38AFindingStaysBehindWhatSucceeds() {
        BreathSold x = new BreathSold();
        x.lose(3);
        due(5, x.sheet(3, BYTES, 5));
        x.put(3, BYTES, 0, 1);
        x.wipe(0);
        due(1, x.count(8));
    }

    static void promise38AskingChangesNothing() {
        asked(x -> x.count(8) + x.count(5));
    }

    // ---- 39 digest: "h is 17; h becomes 31 h and each of: .. as longs that wrap."

    private static long mix(long h, long... each) {
        long mixed = h;
        for (long e : each) {
            mixed = 31 * mixed + e;
        }
        return mixed;
    }

    static void promise39NothingThereYet() {
        long h = mix(17, 0, 0, 0, 0, 0, 0, 0, 0, NONE, NONE);
        for (int voice = 0; voice < 8; voice++) {
            h = mix(h, 0, 0, NONE);
        }
        h = mix(h, 0, 0, 0, 0, 0, 0);
        for (int day = 0; day < 3; day++) {
            h = mix(h, 0, 0, 0, NONE, 0, NONE, NONE);
        }
        due(mix(h, 0, 0, NONE, 0), new BreathSold().digest());
    }

    /** One bottle of 60 on the south shelf, sold on day 9, burst on day 39. */
    static void promise39OneBottle() {
        BreathSold x = with("h609s", "h");
        x.act(9, SALE, 0, 5);
        x.hot(39);
        x.weighed(0, 0, 60);
        long h = mix(17, 1, 1, 5, 1, 1, 1, 1, 1, NONE, NONE);
        // 11 by 16 to the seventh: it would burst on each hot day.
        h = mix(h, 7, 60, 9, 1, 60, 0, 5, 0, 19487171, 268435456, x.market(7, 20, 0));
        h = mix(h, 7);
        for (int voice = 0; voice < 7; voice++) {
            h = mix(h, 0, 0, NONE);
        }
        h = mix(h, 0, 60, 0);
        h = mix(h, 0, 0, 0, 0, 0, 128);
        h = mix(h, 0, 0, 0, 0, 0, NONE, 0);
        h = mix(h, 0, 0, 0, 0, 0, NONE, 0);
        h = mix(h, 0, 128, NONE, NONE, NONE, NONE, 0);
        h = mix(h, 1);
        due(mix(h, 1, 0, NONE, x.market(7, 20, NONE)), x.digest());
    }

    /** Each answer of it by the call that gives it, where the days and numbers beside those told answer otherwise. */
    private static long digestByCalls(BreathSold x) {
        long h = 17;
        for (int what = 0; what <= 7; what++) {
            h = mix(h, x.count(what));
        }
        h = mix(h, x.fault(0), x.fault(1));
        for (int b = 0; b < x.count(0); b++) {
            h = mix(h, x.bottle(b, 0), x.bottle(b, 1), x.bottle(b, 2), x.bottle(b, 3));
            h = mix(h, x.holds(5, b, NONE), x.holds(39, b, NONE), x.who(9, b), x.whole(39, b));
            h = mix(h, x.heat(5, b, 6, 0), x.heat(5, b, 6, 1), x.market(7, 20, b));
        }
        for (int i = 0; i < x.count(1); i++) {
            h = mix(h, x.note(i));
        }
        for (int v = 0; v < 8; v++) {
            h = mix(h, x.heard(39, v), x.spilled(39, v), x.most(5, v));
        }
        for (int o = 0; o < 6; o++) {
            h = mix(h, x.has(9, o));
        }
        for (int day : new int[] {0, 5, 39}) {
            h = mix(h, x.leaked(day), x.lost(day), x.sing(day, NONE), x.sing(day, 0));
            h = mix(h, x.corks(day, NONE), x.corks(day, 0), x.weigh(day));
        }
        for (int a = 0; a < x.count(4); a++) {
            h = mix(h, x.works(a));
        }
        return mix(h, x.hid(), x.swapped(0), x.swapped(1), x.market(7, 20, NONE));
    }

    static void promise39EachDayOfIt() {
        BreathSold x = with("a990s;b850n;a709n;c604n;d059n;h999s;a200n", "abd");
        x.act(5, JOIN, 2, 3);
        x.act(6, JOIN, 3, 6);
        x.act(9, SALE, 0, 2);
        x.act(10, SALE, 0, 3);
        x.act(39, BREAK, 6, 0);
        x.act(38, JOIN, 1, 4);
        x.hot(39);
        x.hot(4);
        x.burst(65);
        due(digestByCalls(x), x.digest());
        x.weighed(5, 1, x.holds(5, 1, NONE));
        due("with something weighed", digestByCalls(x), x.digest());
    }

    static void promise39CorksInIt() {
        BreathSold x = with("c999s;a050n;b050n;d100n", "ab");
        x.act(7, BREAK, 0, 0);
        x.act(1, BREAK, 3, 0);
        x.weighed(0, 3, 8);
        due("two corks by day 5", 2, x.corks(5, NONE));
        due(digestByCalls(x), x.digest());
    }

    static void promise39AFaultInIt() {
        BreathSold x = full();
        x.undo(0);
        x.undo(1);
        x.type(1, 'z');
        due(digestByCalls(x), x.digest());
    }

    static void promise39FindingsAndSheetsAreNotInIt() {
        BreathSold x = busy();
        long before = x.digest();
        x.lose(3);
        x.sheet(3, BYTES, 60);
        x.put(0, BYTES, 0, 99);
        due(before, x.digest());
    }

    static void promise39FullOnes() {
        BreathSold x = full();
        due("twice alike", x.digest(), x.digest());
        due("another like one", x.digest(), full().digest());
        due("by its calls", digestByCalls(x), x.digest());
    }

    static void promise39AskingChangesNothing() {
        asked(x -> x.digest());
    }
}
