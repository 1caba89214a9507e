/** The edges of promises 1 to 12: bottles, the song, acts. */
public final class TellingEdgesTest extends Edges {
    public static void main(String[] args) throws IllegalAccessException {
        runAll(TellingEdgesTest.class, 1, 12);
    }

    // ---- 1 A new object: "No BOTTLES, no SONG; all SHEETS are LOST."

    static void promise01NoBottles() {
        due(0, new BreathSold().count(0));
        due(BAD, new BreathSold().bottle(0, 0));
        due(BAD, new BreathSold().holds(0, 0, NONE));
    }

    static void promise01NoSong() {
        due(0, new BreathSold().count(1));
        due(NONE, new BreathSold().note(0));
    }

    static void promise01EmptyTexts() {
        due(0, new BreathSold().wipe(0));
        due(0, new BreathSold().wipe(1));
    }

    static void promise01EachSheetIsLost() {
        for (int s = 0; s < 4; s++) {
            due("sheet " + s, NULL_FOUND, new BreathSold().lose(s));
        }
    }

    static void promise01NoActsHotDaysNorWeighed() {
        due(0, new BreathSold().count(4));
        due(0, new BreathSold().count(6));
        due(0, new BreathSold().count(7));
    }

    static void promise01NoFindingYet() {
        due(0, new BreathSold().count(8));
    }

    static void promise01BurstIs60() {
        due(60, new BreathSold().burst(1));
    }

    static void promise01TwoObjectsShareNothing() {
        full();
        BreathSold x = new BreathSold();
        for (int what = 0; what <= 8; what++) {
            due("count " + what, 0, x.count(what));
        }
        due(60, x.burst(60));
        due(NULL_FOUND, x.lose(0));
    }

    // ---- 2 type: "A byte (0 to 255) comes behind a text: how many. BAD; FULL."

    static void promise02NoSuchText() {
        refusedBeyond(0, 1, BAD, (x, text) -> x.type(text, 'a'));
    }

    static void promise02NoSuchByte() {
        refusedBeyond(0, 255, BAD, (x, b) -> x.type(0, b));
        refusedBeyond(0, 255, BAD, (x, b) -> x.type(1, b));
    }

    static void promise02LeastByteIsTaken() {
        due(1, new BreathSold().type(0, 0));
        due(1, new BreathSold().type(1, 0));
    }

    static void promise02GreatestByteIsTaken() {
        due(1, new BreathSold().type(0, 255));
        due(1, new BreathSold().type(1, 255));
    }

    static void promise02ByteComesBehind() {
        BreathSold x = with("a109n");
        due(6, x.type(0, ';'));
        typeAll(x, 0, "b20");
        due(10, x.type(0, '9'));
        due(11, x.type(0, 's'));
        due("the one that was there", 0, x.bottle(0, 0));
        due("the one behind", 1, x.bottle(1, 0));
    }

    static void promise02Text0TakesItsByte47() {
        BreathSold x = new BreathSold();
        for (int i = 0; i < 46; i++) {
            due("byte " + i, i + 1, x.type(0, EIGHT.charAt(i)));
        }
        due(47, x.type(0, EIGHT.charAt(46)));
        due("bottles", 8, x.count(0));
    }

    static void promise02Text0HasNoRoomForByte48() {
        refusedWhenFull(FULL, x -> x.type(0, ';'));
    }

    static void promise02Text1TakesItsByte8() {
        BreathSold x = with("", "abcdefg");
        due(8, x.type(1, 'h'));
        due("letters", 8, x.count(1));
    }

    static void promise02Text1HasNoRoomForByte9() {
        refusedWhenFull(FULL, x -> x.type(1, 'a'));
    }

    static void promise02BadAheadOfFull() {
        refusedWhenFull(BAD, x -> x.type(0, 256));
        refusedWhenFull(BAD, x -> x.type(0, -1));
        refusedWhenFull(BAD, x -> x.type(1, 256));
        refusedWhenFull(BAD, x -> x.type(1, -1));
    }

    static void promise02OneFullTextLeavesTheOtherItsRoom() {
        due(1, with(EIGHT).type(1, 'a'));
        due(1, with("", "abcdefgh").type(0, 'a'));
    }

    static void promise02RoomAgainBehindUndo() {
        BreathSold x = full();
        x.undo(0);
        x.undo(1);
        due(47, x.type(0, 'n'));
        due(8, x.type(1, 'a'));
        due("the last shelf", 0, x.bottle(7, 3));
        due("the last letter", 0, x.note(7));
    }

    // ---- 3 wipe: "A text is empty: how many bytes it had. BAD."

    static void promise03NoSuchText() {
        refusedBeyond(0, 1, BAD, (x, text) -> x.wipe(text));
    }

    static void promise03AnEmptyTextHadNone() {
        BreathSold x = with("a109n", "a");
        due(5, x.wipe(0));
        due("once more", 0, x.wipe(0));
        due(1, x.wipe(1));
        due("once more", 0, x.wipe(1));
    }

    static void promise03AFullTextHadAll() {
        due(47, full().wipe(0));
        due(8, full().wipe(1));
    }

    static void promise03TextIsEmpty() {
        BreathSold x = full();
        x.wipe(0);
        due("bytes", 0, x.count(2));
        due("bottles", 0, x.count(0));
        due("fault", NONE, x.fault(0));
        due("undo", NOT, x.undo(0));
        due("the first byte", 1, x.type(0, 'a'));
    }

    static void promise03SongIsEmpty() {
        BreathSold x = full();
        x.wipe(1);
        due("bytes", 0, x.count(3));
        due("letters", 0, x.count(1));
        due("note", NONE, x.note(0));
        due("undo", NOT, x.undo(1));
        due("the first byte", 1, x.type(1, 'a'));
    }

    static void promise03TheOtherTextStays() {
        BreathSold x = full();
        x.wipe(0);
        due("letters", 8, x.count(1));
        BreathSold y = full();
        y.wipe(1);
        due("bottles", 8, y.count(0));
    }

    static void promise03ActsHotDaysAndWeighedStay() {
        BreathSold x = full();
        x.wipe(0);
        due("acts", 16, x.count(4));
        due("hot days", 8, x.count(6));
        due("weighed", 8, x.count(7));
    }

    static void promise03ATextWithAFault() {
        BreathSold x = new BreathSold();
        typeAll(x, 0, "zzz");
        due(3, x.wipe(0));
        due("fault", NONE, x.fault(0));
    }

    // ---- 4 undo: "The last byte of a text is undone: how many are left. BAD; NOT: it is empty."

    static void promise04NoSuchText() {
        refusedBeyond(0, 1, BAD, (x, text) -> x.undo(text));
    }

    static void promise04NothingTypedYet() {
        BreathSold x = new BreathSold();
        due(NOT, x.undo(0));
        due(NOT, x.undo(1));
        due("bytes", 0, x.count(2));
        due("bytes of the song", 0, x.count(3));
        due("the first byte", 1, x.type(0, 'a'));
        due("the first letter", 1, x.type(1, 'a'));
    }

    static void promise04TheLastOneLeavesNone() {
        BreathSold x = new BreathSold();
        x.type(0, 'a');
        x.type(1, 'a');
        due(0, x.undo(0));
        due(NOT, x.undo(0));
        due(0, x.undo(1));
        due(NOT, x.undo(1));
    }

    static void promise04NotIsOfThatTextAlone() {
        due(NOT, with("a109n").undo(1));
        due(NOT, with("", "a").undo(0));
    }

    static void promise04OfAFullText() {
        BreathSold x = full();
        due(46, x.undo(0));
        due("not ended", 46, x.fault(0));
        due(7, x.undo(1));
        due("letters", 7, x.count(1));
        due("no letter there", NONE, x.note(7));
    }

    static void promise04UndoneFault() {
        BreathSold x = with("a109n");
        x.type(0, 'x');
        due("a fault", 0, x.count(0));
        due(5, x.undo(0));
        due("well again", 1, x.count(0));
    }

    // ---- 5 fault: "The FAULT of a text; NONE. BAD."

    private static void bottlesFault(int want, String text) {
        BreathSold x = new BreathSold();
        typeAll(x, 0, text);
        due("fault of " + text, want, x.fault(0));
        due("bottles of " + text, want == NONE ? (text.length() + 1) / 6 : 0, x.count(0));
        due("bytes of " + text, text.length(), x.count(2));
    }

    private static void songFault(int want, String text) {
        BreathSold x = new BreathSold();
        typeAll(x, 1, text);
        due("fault of the song " + text, want, x.fault(1));
        due("letters of " + text, want == NONE ? text.length() : 0, x.count(1));
        due("bytes of " + text, text.length(), x.count(3));
    }

    static void promise05NoSuchText() {
        refusedBeyond(0, 1, BAD, (x, text) -> x.fault(text));
    }

    static void promise05AnEmptyOneIsWell() {
        bottlesFault(NONE, "");
        songFault(NONE, "");
    }

    static void promise05NotEndedIsItsEnd() {
        bottlesFault(1, "a");
        bottlesFault(2, "a1");
        bottlesFault(3, "a10");
        bottlesFault(4, "a105");
        bottlesFault(6, "a105n;");
        bottlesFault(7, "a105n;b");
        bottlesFault(8, "a105n;b1");
        bottlesFault(9, "a105n;b10");
        bottlesFault(10, "a105n;b105");
        bottlesFault(12, "a105n;b105s;");
        for (int length = 42; length < 47; length++) {
            bottlesFault(length, EIGHT.substring(0, length));
        }
    }

    static void promise05LettersAToH() {
        bottlesFault(NONE, "a109n");
        bottlesFault(NONE, "h109n");
        bottlesFault(0, "`109n");
        bottlesFault(0, "i109n");
        bottlesFault(0, "A109n");
        bottlesFault(0, "H109n");
        bottlesFault(0, "1109n");
    }

    static void promise05FirstFigure() {
        bottlesFault(NONE, "a019n");
        bottlesFault(NONE, "a909n");
        bottlesFault(1, "a/19n");
        bottlesFault(1, "a:19n");
        bottlesFault(1, "aa19n");
    }

    static void promise05SecondFigure() {
        bottlesFault(NONE, "a109n");
        bottlesFault(NONE, "a199n");
        bottlesFault(2, "a1/9n");
        bottlesFault(2, "a1:9n");
        bottlesFault(2, "a0/9n");
        bottlesFault(2, "a0:9n");
    }

    static void promise05SecondFigureOf00() {
        bottlesFault(2, "a00");
        bottlesFault(2, "a009n");
        bottlesFault(8, "a019n;a009n");
        bottlesFault(44, EIGHT.substring(0, 42) + "h008s");
    }

    static void promise05LeastAndGreatestMuch() {
        bottlesFault(NONE, "a010n");
        bottlesFault(NONE, "a990n");
    }

    static void promise05Cork() {
        bottlesFault(NONE, "a100n");
        bottlesFault(NONE, "a109n");
        bottlesFault(3, "a10/n");
        bottlesFault(3, "a10:n");
        bottlesFault(3, "a10n");
    }

    static void promise05ShelfNOrS() {
        bottlesFault(NONE, "a109n");
        bottlesFault(NONE, "a109s");
        for (char c : "morteNS0;".toCharArray()) {
            bottlesFault(4, "a109" + c);
        }
    }

    static void promise05BetweenThem() {
        bottlesFault(NONE, "a109n;a109n");
        for (char c : ":<,n a".toCharArray()) {
            bottlesFault(5, "a109n" + c + "a109n");
        }
        bottlesFault(6, "a109n;;a109n");
        bottlesFault(0, ";a109n");
    }

    static void promise05TheFirstOfTwoFaults() {
        bottlesFault(0, "zz");
        bottlesFault(2, "a00x");
        bottlesFault(5, "a109nx;z");
    }

    static void promise05EightAreWell() {
        bottlesFault(NONE, EIGHT);
    }

    static void promise05EachPlaceOfTheEighth() {
        String seven = EIGHT.substring(0, 42);
        bottlesFault(41, EIGHT.substring(0, 41) + "xh128s");
        bottlesFault(42, seven + "x128s");
        bottlesFault(43, seven + "hx28s");
        bottlesFault(44, seven + "h1x8s");
        bottlesFault(45, seven + "h12xs");
        bottlesFault(46, seven + "h128x");
    }

    static void promise05ANinthHasNoRoom() {
        BreathSold x = with(EIGHT);
        due(FULL, x.type(0, ';'));
        due(NONE, x.fault(0));
    }

    static void promise05LeastAndGreatestByte() {
        for (int text = 0; text < 2; text++) {
            for (int b = 0; b < 256; b += 255) {
                BreathSold x = new BreathSold();
                x.type(text, b);
                due("byte " + b, 0, x.fault(text));
            }
        }
    }

    static void promise05SongOfEight() {
        songFault(NONE, "abcdefgh");
        songFault(NONE, "hhhhhhhh");
        songFault(7, "abcdefgi");
        songFault(0, "`bcdefgh");
    }

    static void promise05SongLettersAToH() {
        songFault(NONE, "a");
        songFault(NONE, "h");
        songFault(0, "`");
        songFault(0, "i");
        songFault(1, "aA");
        songFault(1, "a;");
    }

    static void promise05TheFirstOfTwoFaultsOfTheSong() {
        songFault(1, "azz");
    }

    static void promise05WithAFaultAsIfEmpty() {
        BreathSold x = full();
        x.undo(0);
        due("fault", 46, x.fault(0));
        due("bottles", 0, x.count(0));
        due("bottle", BAD, x.bottle(0, 0));
        due("holds", BAD, x.holds(0, 0, NONE));
        due("leaked", 0, x.leaked(39));
        due("lost", 0, x.lost(39));
        due("acts that work", 0, x.count(5));
        x.undo(1);
        x.type(1, 'i');
        due("fault of the song", 7, x.fault(1));
        due("letters", 0, x.count(1));
        due("note", NONE, x.note(0));
        due("sing", 0, x.sing(0, NONE));
    }

    // ---- 6 bottle: "VOICE (what = 0), how MUCH (1), CORK (2), whether it stands on s (3: 1, 0) of a BOTTLE at first. BAD."

    static void promise06NoSuchBottle() {
        refusedBeyond(0, 3, BAD, (x, b) -> x.bottle(b, 0));
    }

    static void promise06NoBottles() {
        due(BAD, new BreathSold().bottle(0, 0));
    }

    static void promise06TheLastOfEight() {
        BreathSold x = with(EIGHT);
        due(7, x.bottle(7, 0));
        due(12, x.bottle(7, 1));
        due(8, x.bottle(7, 2));
        due(1, x.bottle(7, 3));
        due("the ninth", BAD, x.bottle(8, 0));
    }

    static void promise06NoSuchWhat() {
        refusedBeyond(0, 3, BAD, (x, what) -> x.bottle(0, what));
    }

    static void promise06LeastAndGreatestVoice() {
        due(0, with("a109n;h109n").bottle(0, 0));
        due(7, with("a109n;h109n").bottle(1, 0));
    }

    static void promise06LeastAndGreatestMuch() {
        due(1, with("a019n;a999n").bottle(0, 1));
        due(99, with("a019n;a999n").bottle(1, 1));
        due("its tens", 10, with("a109n").bottle(0, 1));
    }

    static void promise06LeastAndGreatestCork() {
        due(0, with("a100n;a109n").bottle(0, 2));
        due(9, with("a100n;a109n").bottle(1, 2));
    }

    static void promise06Shelf() {
        due(0, with("a109n;a109s").bottle(0, 3));
        due(1, with("a109n;a109s").bottle(1, 3));
    }

    static void promise06AtFirstWhateverWasDone() {
        BreathSold x = with("a500s;b309n");
        x.act(0, CORKED, 0, 0);
        x.act(0, JOIN, 0, 1);
        x.act(0, BREAK, 0, 0);
        x.holds(39, 0, NONE);
        due("voice", 0, x.bottle(0, 0));
        due("much", 50, x.bottle(0, 1));
        due("cork", 0, x.bottle(0, 2));
        due("shelf", 1, x.bottle(0, 3));
        due("much of the other", 30, x.bottle(1, 1));
    }

    // ---- 7 note: "The VOICE of the i-th letter of THE SONG (0 to 7); NONE. BAD."

    static void promise07NoSuchPlace() {
        refusedBeyond(0, 7, BAD, (x, i) -> x.note(i));
    }

    static void promise07NoSongYet() {
        due(NONE, new BreathSold().note(0));
        due(NONE, new BreathSold().note(7));
        due(BAD, new BreathSold().note(8));
        due(BAD, new BreathSold().note(-1));
    }

    static void promise07TheLastLetterAndBehindIt() {
        BreathSold x = with("", "cb");
        due(2, x.note(0));
        due(1, x.note(1));
        due(NONE, x.note(2));
        due(NONE, x.note(7));
    }

    static void promise07TheLastOfEight() {
        due(7, with("", "aaaaaaah").note(7));
        due(0, with("", "hhhhhhha").note(7));
        due(BAD, with("", "hhhhhhha").note(8));
    }

    static void promise07NeedsNoBottles() {
        due(7, with("", "h").note(0));
    }

    // ---- 8 burst: "BURST: what it was. BAD."; "BURST (1 to 200; 60 at first), or more"

    static void promise08NoSuchBurst() {
        refusedBeyond(1, 200, BAD, (x, v) -> x.burst(v));
    }

    static void promise08LeastAndGreatest() {
        BreathSold x = new BreathSold();
        due("at first", 60, x.burst(1));
        due("the least was taken", 1, x.burst(200));
        due("the greatest was taken", 200, x.burst(200));
        due("the same again", 200, x.burst(7));
        due(7, x.burst(60));
    }

    static void promise08SixtyBurstsAtFirst() {
        BreathSold x = with("a609s;b599s");
        x.hot(0);
        due("60", 0, x.whole(0, 0));
        due("59", 1, x.whole(0, 1));
    }

    static void promise08LeastBurst() {
        BreathSold x = with("a019s;b010s");
        x.hot(0);
        x.burst(1);
        due("1 of it", 0, x.whole(0, 0));
        due("none is left of it", 1, x.whole(0, 1));
    }

    static void promise08GreatestBurst() {
        BreathSold x = with("a999s;b999n;c029n");
        x.act(0, JOIN, 1, 0);
        x.act(0, JOIN, 2, 0);
        x.hot(0);
        x.burst(200);
        due("200 altogether", 0, x.whole(0, 0));
        x.wipe(0);
        typeAll(x, 0, "a999s;b999n;c019n");
        due("199 altogether", 1, x.whole(0, 0));
    }

    static void promise08ItHoldsForDaysThatWereAskedOf() {
        BreathSold x = with("a609s");
        x.hot(3);
        due("burst", 0, x.whole(39, 0));
        x.burst(61);
        due("not any more", 1, x.whole(39, 0));
        x.burst(60);
        due("and again", 0, x.whole(3, 0));
    }

    // ---- 9 hot: "A HOT DAY more: how many. BAD; FULL."; "(told, 8 at most)"

    static void promise09NoSuchDay() {
        refusedBeyond(0, 39, BAD, (x, day) -> x.hot(day));
    }

    static void promise09Day0IsTaken() {
        BreathSold x = with("a999s");
        due(1, x.hot(0));
        due("burst", 0, x.whole(0, 0));
    }

    static void promise09Day39IsTaken() {
        BreathSold x = with("a999s");
        due(1, x.hot(39));
        due("the day ahead", 1, x.whole(38, 0));
        due("burst", 0, x.whole(39, 0));
    }

    static void promise09TheEighthIsTaken() {
        BreathSold x = with("a999s");
        for (int i = 0; i < 7; i++) {
            due("hot day " + i, i + 1, x.hot(30 + i));
        }
        due(8, x.hot(4));
        due("the day ahead", 1, x.whole(3, 0));
        due("burst on the eighth", 0, x.whole(4, 0));
    }

    static void promise09NoRoomForANinth() {
        refusedWhenFull(FULL, x -> x.hot(0));
        refusedWhenFull(FULL, x -> x.hot(39));
    }

    static void promise09BadAheadOfFull() {
        refusedWhenFull(BAD, x -> x.hot(40));
        refusedWhenFull(BAD, x -> x.hot(-1));
    }

    static void promise09RoomAgainBehindBack() {
        BreathSold x = full();
        due(7, x.back(1));
        due(8, x.hot(0));
        due("the second of the south shelf", 0, x.whole(0, 1));
    }

    static void promise09ANorthShelfStays() {
        BreathSold x = with("a999n");
        x.hot(0);
        due(1, x.whole(39, 0));
    }

    // ---- 10 act: "An ACT more (kind 0 to 3, BOTTLE 0 to 7; to: an OWNER, 0 to 5, of a SALE, a BOTTLE, 0 to 7, of a JOIN;
    // else 0): how many. BAD; FULL."

    static void promise10NoSuchDay() {
        refusedBeyond(0, 39, BAD, (x, day) -> x.act(day, SALE, 0, 1));
    }

    static void promise10LeastAndGreatestDay() {
        BreathSold x = with("a109n");
        due(1, x.act(39, SALE, 0, 2));
        due(2, x.act(0, SALE, 0, 1));
        due("behind day 0", 1, x.who(0, 0));
        due("behind day 38", 1, x.who(38, 0));
        due("behind day 39", 2, x.who(39, 0));
    }

    static void promise10NoSuchKind() {
        refusedBeyond(0, 3, BAD, (x, kind) -> x.act(0, kind, 0, 0));
    }

    static void promise10NoSuchBottle() {
        for (int kind = 0; kind < 4; kind++) {
            int k = kind;
            refusedBeyond(0, 7, BAD, (x, b) -> x.act(0, k, b, 0));
        }
    }

    static void promise10LeastAndGreatestBottleOfEachKind() {
        BreathSold x = new BreathSold();
        for (int kind = 0; kind < 4; kind++) {
            due("kind " + kind, 2 * kind + 1, x.act(0, kind, 0, 0));
            due("kind " + kind, 2 * kind + 2, x.act(0, kind, 7, 0));
        }
    }

    static void promise10NoSuchOwner() {
        refusedBeyond(0, 5, BAD, (x, to) -> x.act(0, SALE, 0, to));
    }

    static void promise10LeastAndGreatestOwner() {
        BreathSold x = with("a109n");
        due(1, x.act(0, SALE, 0, 5));
        due(5, x.who(0, 0));
        due(2, x.act(1, SALE, 0, 0));
        due(0, x.who(1, 0));
    }

    static void promise10NoSuchBottleToJoin() {
        refusedBeyond(0, 7, BAD, (x, to) -> x.act(0, JOIN, 0, to));
    }

    static void promise10LeastAndGreatestBottleToJoin() {
        BreathSold x = with(EIGHT);
        due(1, x.act(0, JOIN, 1, 7));
        due(2, x.act(0, JOIN, 2, 0));
        due("in 7", 85 - 1, x.holds(0, 7, 1));
        due("in 0", 77 - 8, x.holds(0, 0, 2));
    }

    static void promise10ABreakHasNoTo() {
        refusedBeyond(0, 0, BAD, (x, to) -> x.act(0, BREAK, 0, to));
    }

    static void promise10CorkedHasNoTo() {
        refusedBeyond(0, 0, BAD, (x, to) -> x.act(0, CORKED, 0, to));
    }

    static void promise10TheSixteenthIsTaken() {
        BreathSold x = with("a109n");
        for (int a = 0; a < 15; a++) {
            due("act " + a, a + 1, x.act(5, SALE, 7, 0));
        }
        due(16, x.act(5, SALE, 0, 3));
        due("it is done", 3, x.who(5, 0));
    }

    static void promise10NoRoomForASeventeenth() {
        refusedWhenFull(FULL, x -> x.act(0, BREAK, 3, 0));
    }

    static void promise10BadAheadOfFull() {
        refusedWhenFull(BAD, x -> x.act(40, SALE, 0, 0));
        refusedWhenFull(BAD, x -> x.act(0, 4, 0, 0));
        refusedWhenFull(BAD, x -> x.act(0, SALE, 8, 0));
        refusedWhenFull(BAD, x -> x.act(0, SALE, 0, 6));
        refusedWhenFull(BAD, x -> x.act(0, JOIN, 0, 8));
        refusedWhenFull(BAD, x -> x.act(0, BREAK, 0, 1));
    }

    static void promise10RoomAgainBehindBack() {
        BreathSold x = full();
        due(15, x.back(0));
        due(16, x.act(0, SALE, 0, 5));
        due("it is done", 5, x.who(0, 0));
    }

    /** What cannot be does nothing: acts of bottles that there are not leave all as it is without them. */
    static void promise10ABottleThatThereIsNot() {
        BreathSold x = with("a509n;b309n");
        x.act(0, SALE, 2, 1);
        x.act(0, JOIN, 2, 0);
        x.act(0, JOIN, 0, 2);
        x.act(0, BREAK, 2, 0);
        x.act(0, CORKED, 2, 0);
        due("in 0", 50, x.holds(0, 0, NONE));
        due("in 1", 30, x.holds(0, 1, NONE));
        due("0 is whole", 1, x.whole(0, 0));
        due("with 0", 3, x.has(0, 0));
        due("with 1", 0, x.has(0, 1));
        due("none works", 0, x.count(5));
        typeAll(x, 0, ";c409n");
        due("now it is there, and was broken", 0, x.whole(0, 2));
        due("with 0's breath too", 50, x.heard(0, 0));
    }

    static void promise10AJoinWithItself() {
        BreathSold x = with("a509n");
        x.act(0, JOIN, 0, 0);
        due("in it", 50, x.holds(0, 0, NONE));
        due("whole", 1, x.whole(0, 0));
        due("works", 0, x.works(0));
    }

    static void promise10AJoinOfOneThatIsNotWhole() {
        BreathSold x = with("a509n;b309n");
        x.act(0, BREAK, 0, 0);
        x.act(1, JOIN, 0, 1);
        due("in 1", 30, x.holds(1, 1, NONE));
        due("works", 0, x.works(1));
    }

    static void promise10AJoinIntoOneThatIsNotWhole() {
        BreathSold x = with("a509n;b309n");
        x.act(0, BREAK, 0, 0);
        x.act(1, JOIN, 1, 0);
        due("in 1", 30, x.holds(1, 1, NONE));
        due("in 0", 0, x.holds(1, 0, NONE));
        due("works", 0, x.works(1));
    }

    static void promise10AJoinIntoOneThatBurst() {
        BreathSold x = with("a609s;b309n");
        x.hot(0);
        x.act(1, JOIN, 1, 0);
        due("in 1", 30, x.holds(1, 1, NONE));
        due("works", 0, x.works(0));
    }

    static void promise10JoinedFromIsEmptyAndWhole() {
        BreathSold x = with("a509n;b309n");
        x.act(0, JOIN, 0, 1);
        due("in 0", 0, x.holds(0, 0, NONE));
        due("0 is whole", 1, x.whole(0, 0));
        due("in 1", 80, x.holds(0, 1, NONE));
        x.act(1, JOIN, 1, 0);
        due("back in 0", 80, x.holds(1, 0, NONE));
        due("in 1", 0, x.holds(1, 1, NONE));
    }

    static void promise10ABreakOfABrokenOneIsNotHeardAgain() {
        BreathSold x = with("a509n");
        x.act(0, BREAK, 0, 0);
        x.act(0, BREAK, 0, 0);
        due("heard", 50, x.heard(0, 0));
        due("works", 0, x.works(1));
    }

    static void promise10ABreakOfABurstOneIsNotHeard() {
        BreathSold x = with("a609s");
        x.hot(0);
        x.act(1, BREAK, 0, 0);
        due("heard", 0, x.heard(1, 0));
        due("spilled", 60, x.spilled(1, 0));
        due("works", 0, x.works(0));
    }

    static void promise10CorkedIs9FromThenOn() {
        BreathSold x = with("a990n");
        x.act(1, CORKED, 0, 0);
        due("open on day 0", 89, x.holds(0, 0, NONE));
        due("corked on day 1", 89, x.holds(1, 0, NONE));
        due("to the end", 89, x.holds(39, 0, NONE));
    }

    static void promise10OnADayFirstItsActs() {
        BreathSold x = with("a990s;b309n");
        x.hot(0);
        x.act(0, BREAK, 0, 0);
        due("heard ahead of the leak", 99, x.heard(0, 0));
        due("nothing to burst", 0, x.spilled(0, 0));
        due("nothing to leak", 0, x.leaked(0));
    }

    static void promise10LaterToldOnAnEarlierDay() {
        BreathSold x = with("a109n");
        x.act(3, SALE, 0, 1);
        x.act(2, SALE, 0, 2);
        x.act(3, SALE, 0, 4);
        due(2, x.who(2, 0));
        due("as told on one day", 4, x.who(3, 0));
    }

    // ---- 11 back: "The last ACT (what = 0), HOT DAY (1) is undone: how many are left. BAD; NOT: there is none."

    static void promise11NoSuchWhat() {
        refusedBeyond(0, 1, BAD, (x, what) -> x.back(what));
    }

    static void promise11NothingToldYet() {
        BreathSold x = new BreathSold();
        due(NOT, x.back(0));
        due(NOT, x.back(1));
        due("acts", 0, x.count(4));
        due("hot days", 0, x.count(6));
        due("the first act", 1, x.act(0, SALE, 0, 0));
        due("the first hot day", 1, x.hot(0));
    }

    static void promise11BadAheadOfNot() {
        due(BAD, new BreathSold().back(2));
        due(BAD, new BreathSold().back(-1));
    }

    static void promise11NotIsOfThatKindAlone() {
        BreathSold x = new BreathSold();
        x.act(0, SALE, 0, 0);
        due(NOT, x.back(1));
        due("acts", 1, x.count(4));
        BreathSold y = new BreathSold();
        y.hot(0);
        due(NOT, y.back(0));
        due("hot days", 1, y.count(6));
    }

    static void promise11TheLastOneLeavesNone() {
        BreathSold x = new BreathSold();
        x.act(0, SALE, 0, 0);
        x.hot(0);
        due(0, x.back(0));
        due(NOT, x.back(0));
        due(0, x.back(1));
        due(NOT, x.back(1));
    }

    static void promise11OfFullOnes() {
        BreathSold x = full();
        due(15, x.back(0));
        due(7, x.back(1));
        due("acts", 15, x.count(4));
        due("hot days", 7, x.count(6));
        due("the one undone", BAD, x.works(15));
    }

    static void promise11TheLastToldNotTheLatestDay() {
        BreathSold x = with("a999s");
        x.act(9, SALE, 0, 1);
        x.act(2, SALE, 0, 2);
        x.hot(9);
        x.hot(3);
        due(1, x.back(0));
        due("day 2 is undone", 0, x.who(8, 0));
        due("day 9 is not", 1, x.who(9, 0));
        due(1, x.back(1));
        due("day 3 is undone", 1, x.whole(8, 0));
        due("day 9 is not", 0, x.whole(9, 0));
    }

    static void promise11ABreakingIsUndone() {
        BreathSold x = with("a509n");
        x.act(4, BREAK, 0, 0);
        due("heard", 50, x.heard(39, 0));
        x.back(0);
        due("not heard", 0, x.heard(39, 0));
        due("whole", 1, x.whole(39, 0));
        due("in it", 50, x.holds(39, 0, 0));
    }

    // ---- 12 read: "ACTS from a SHEET: its items, four for each (as of act()), as many as are whole, as long as each may be:
    // how many. BAD; NULL."

    static void promise12NoSuchSheet() {
        refusedBeyond(0, 3, BAD, (x, s) -> x.read(s));
    }

    static void promise12ALostSheet() {
        found(NULL_FOUND, 1, x -> x.read(3));
    }

    static void promise12EachSheet() {
        for (int s = 0; s < 4; s++) {
            BreathSold x = with("a109n");
            fill(x, s, BYTES, 0, SALE, 0, 1 + s);
            due("from " + s, 1, x.read(s));
            due("sold", 1 + s, x.who(0, 0));
        }
    }

    static void promise12NoItems() {
        BreathSold x = new BreathSold();
        x.sheet(0, BYTES, 0);
        due(0, x.read(0));
        due("acts", 0, x.count(4));
    }

    static void promise12AsManyAsAreWhole() {
        for (int items = 1; items <= 9; items++) {
            BreathSold x = new BreathSold();
            x.sheet(0, INTS, items);
            due(items + " items", items / 4, x.read(0));
            due("acts", items / 4, x.count(4));
        }
    }

    static void promise12SixtyItemsAreFifteen() {
        BreathSold x = with("a109n");
        x.sheet(0, SHORTS, 60);
        fill59(x);
        due(15, x.read(0));
        due("acts", 15, x.count(4));
        due("the last one", 5, x.who(39, 0));
        due("not ahead of its day", 0, x.who(38, 0));
    }

    private static void fill59(BreathSold x) {
        x.put(0, SHORTS, 56, 39);
        x.put(0, SHORTS, 59, 5);
    }

    static void promise12NoRoomLeft() {
        BreathSold x = new BreathSold();
        x.sheet(0, BYTES, 60);
        due(15, x.read(0));
        due("one more has room", 1, x.read(0));
        due("acts", 16, x.count(4));
        due("none has", 0, x.read(0));
        due("acts", 16, x.count(4));
        due("no finding", 0, x.count(8));
    }

    static void promise12BehindThoseThatThereAre() {
        BreathSold x = with("a109n");
        x.act(5, SALE, 0, 1);
        fill(x, 0, BYTES, 5, SALE, 0, 2);
        due(1, x.read(0));
        due("acts", 2, x.count(4));
        due("the last told", 2, x.who(5, 0));
    }

    private static void stopsAt(int day, int kind, int bottle, int to) {
        BreathSold x = with("a109n");
        fill(x, 0, INTS, 1, SALE, 0, 1, 2, SALE, 0, 2, day, kind, bottle, to, 4, SALE, 0, 4);
        due("those ahead", 2, x.read(0));
        due("acts", 2, x.count(4));
        due("none behind it", 2, x.who(39, 0));
    }

    static void promise12AsLongAsTheDayMayBe() {
        stopsAt(-1, SALE, 0, 0);
        stopsAt(40, SALE, 0, 0);
    }

    static void promise12AsLongAsTheKindMayBe() {
        stopsAt(3, -1, 0, 0);
        stopsAt(3, 4, 0, 0);
    }

    static void promise12AsLongAsTheBottleMayBe() {
        stopsAt(3, SALE, -1, 0);
        stopsAt(3, SALE, 8, 0);
    }

    static void promise12AsLongAsToMayBe() {
        stopsAt(3, SALE, 0, -1);
        stopsAt(3, SALE, 0, 6);
        stopsAt(3, JOIN, 0, 8);
        stopsAt(3, BREAK, 0, 1);
        stopsAt(3, CORKED, 0, 1);
    }

    static void promise12TheFirstMayNotBe() {
        BreathSold x = new BreathSold();
        fill(x, 0, BYTES, -1, SALE, 0, 0, 0, SALE, 0, 0);
        due(0, x.read(0));
        due("acts", 0, x.count(4));
        due("no finding", 0, x.count(8));
    }

    static void promise12LeastAndGreatestNumbersOfAnAct() {
        BreathSold x = with(EIGHT);
        fill(x, 0, SHORTS, 0, SALE, 0, 0, 39, JOIN, 7, 0, 39, JOIN, 0, 7, 0, CORKED, 7, 0);
        due(4, x.read(0));
    }

    static void promise12TheSheetStays() {
        BreathSold x = new BreathSold();
        fill(x, 0, BYTES, 1, SALE, 2, 3, 4);
        x.read(0);
        dueItems(x, 0, BYTES, 1, SALE, 2, 3, 4);
        due("items", 5, x.lose(0));
    }
}
