/** The edges of promises 22 to 24: songs. */
public final class SongsEdgesTest extends Edges {
    public static void main(String[] args) throws IllegalAccessException {
        runAll(SongsEdgesTest.class, 22, 24);
    }

    private static void dueSong(BreathSold x, int day, int much, int... row) {
        due("how much", much, x.sing(day, NONE));
        for (int i = 0; i < 8; i++) {
            due("bottle " + i, i < row.length ? row[i] : NONE, x.sing(day, i));
        }
    }

    private static void dueCorks(BreathSold x, int day, int many, int... row) {
        due("how many", many, x.corks(day, NONE));
        for (int i = 0; i < 3; i++) {
            due("cork " + i, i < row.length ? row[i] : NONE, x.corks(day, i));
        }
    }

    // ---- 22 sing: "SING: how much (i = NONE), the i-th BOTTLE (0 to 7; NONE); NONE. BAD."

    static void promise22NoSuchDay() {
        refusedBeyond(0, 39, BAD, (x, day) -> x.sing(day, NONE));
        refusedBeyond(0, 39, BAD, (x, day) -> x.sing(day, 0));
    }

    static void promise22NoSuchPlace() {
        refusedBeyond(NONE, 7, BAD, (x, i) -> x.sing(0, i));
    }

    static void promise22NoSuchPlaceWhereThereIsNoRow() {
        due(BAD, with("", "a").sing(0, 8));
        due(BAD, with("", "a").sing(0, -2));
        due(BAD, with("", "a").sing(40, NONE));
    }

    static void promise22NoSong() {
        dueSong(new BreathSold(), 0, 0);
        dueSong(with(EIGHT), 39, 0);
    }

    static void promise22NoBottles() {
        dueSong(with("", "a"), 0, NONE);
        dueSong(with("", "abcdefgh"), 39, NONE);
    }

    static void promise22BehindTheLastLetter() {
        dueSong(with("a109n;b109n", "ab"), 0, 0, 0, 1);
    }

    static void promise22AsManyLettersAsBottles() {
        dueSong(with("h019n;g029n;f039n;e049n;d059n;c069n;b079n;a089n", "abcdefgh"), 39, 0, 7, 6, 5, 4, 3, 2, 1, 0);
        dueSong(with("a019n;a019n;a019n;a019n;a019n;a019n;a019n;a019n", "aaaaaaaa"), 0, 0, 0, 1, 2, 3, 4, 5, 6, 7);
    }

    static void promise22MoreLettersThanBottles() {
        dueSong(with("a109n", "aa"), 0, NONE);
        dueSong(with("a019n;a019n;a019n;a019n;a019n;a019n;a019n", "aaaaaaaa"), 0, NONE);
    }

    static void promise22EachBottleOnceAtMost() {
        BreathSold x = with("a109n;b109n;c109n", "ab");
        x.act(0, JOIN, 0, 1);
        dueSong(x, 0, NONE);
        x.act(0, JOIN, 1, 2);
        dueSong(x, 0, NONE);
    }

    static void promise22AVoiceOfWhichThereIsNone() {
        dueSong(with("a109n;b109n", "ac"), 0, NONE);
        dueSong(with("a109n;b109n", "h"), 0, NONE);
    }

    static void promise22TheLastBitOfAVoice() {
        BreathSold x = with("a020n", "a");
        due("1 is left", 0, x.sing(0, NONE));
        due("in 0", 0, x.sing(0, 0));
        due("none is left", NONE, x.sing(1, NONE));
        due("no row", NONE, x.sing(1, 0));
    }

    static void promise22BrokenAndBurstOnesDoNotSing() {
        BreathSold x = with("a109n;a609s;a119n", "a");
        x.act(1, BREAK, 0, 0);
        x.hot(2);
        due("all", 0, x.sing(0, 0));
        due("broken", 1, x.sing(1, 0));
        due("burst", 2, x.sing(2, 0));
    }

    static void promise22OtherVoicesThanItsLettersAlone() {
        BreathSold x = with("a109n;b209n;a309n", "a");
        x.act(0, JOIN, 1, 0);
        x.act(0, JOIN, 2, 0);
        dueSong(x, 0, 20, 0);
        x.wipe(1);
        x.type(1, 'b');
        dueSong(x, 0, 40, 0);
    }

    static void promise22TheMostThatCanBeSpilled() {
        BreathSold x = with("a999n;b999n;c999n;d999n;e999n;f999n;g999n;h999n", "h");
        for (int b = 0; b < 7; b++) {
            x.act(0, JOIN, b, 7);
        }
        dueSong(x, 39, 7 * 99, 7);
    }

    static void promise22TogetherLeastNotEachLeast() {
        BreathSold x = with("a109n;b109n;a109n;c059n", "ab");
        x.act(0, JOIN, 1, 0);
        x.act(0, JOIN, 3, 2);
        // The a of 0 would spill 10, that of 2 spills 5; the b is in 0 alone.
        dueSong(x, 0, 15, 2, 0);
        x.wipe(1);
        typeAll(x, 1, "ba");
        dueSong(x, 0, 15, 0, 2);
    }

    static void promise22LessByOneIsLess() {
        BreathSold x = with("a109n;b069n;a109n;b059n", "a");
        x.act(0, JOIN, 1, 0);
        x.act(0, JOIN, 3, 2);
        dueSong(x, 0, 5, 2);
    }

    static void promise22OfLikeOnesTheLeastRow() {
        dueSong(with("b109n;a109n;a209n;a309n", "aa"), 0, 0, 1, 2);
        dueSong(with("a109n;b109n;a109n;b109n", "ba"), 0, 0, 1, 0);
        BreathSold x = with("a109n;b109n;a109n;b109n", "ab");
        x.act(0, JOIN, 1, 0);
        x.act(0, JOIN, 3, 2);
        dueSong(x, 0, 20, 0, 2);
    }

    static void promise22TheLeastRowByItsFirstFirst() {
        BreathSold x = with("a109n;c109n;c109n;a109n", "ac");
        x.act(0, JOIN, 1, 0);
        // Of a: 0 spills 10, 3 spills none; of c: 0 spills 10, 2 none.
        dueSong(x, 0, 0, 3, 2);
    }

    static void promise22WhoeverHasThem() {
        BreathSold x = with("a109n;b109n", "ab");
        x.act(0, SALE, 0, 5);
        x.act(0, SALE, 1, 1);
        dueSong(x, 0, 0, 0, 1);
        dueCorks(x, 0, 0);
    }

    static void promise22BehindDay0AndDay39() {
        BreathSold x = with("a109n;b109n", "a");
        x.act(0, JOIN, 1, 0);
        x.act(39, BREAK, 0, 0);
        dueSong(x, 0, 10, 0);
        dueSong(x, 38, 10, 0);
        dueSong(x, 39, NONE);
    }

    static void promise22AskingChangesNothing() {
        asked(x -> x.sing(39, NONE) + x.sing(0, 0));
    }

    // ---- 23 corks: "CORKS: how many (i = NONE), the i-th (0 to 2; NONE); NONE. BAD."
    // 5 of a breath with cork 0 are gone by day 4, of 4 by day 3.

    static void promise23NoSuchDay() {
        refusedBeyond(0, 39, BAD, (x, day) -> x.corks(day, NONE));
        refusedBeyond(0, 39, BAD, (x, day) -> x.corks(day, 0));
    }

    static void promise23NoSuchPlace() {
        refusedBeyond(NONE, 2, BAD, (x, i) -> x.corks(0, i));
    }

    static void promise23NoSuchPlaceWhereNoCorksHelp() {
        due(BAD, with("", "a").corks(0, 3));
        due(BAD, with("", "a").corks(0, -2));
        due(BAD, with("", "a").corks(40, NONE));
    }

    static void promise23NoSong() {
        dueCorks(new BreathSold(), 0, 0);
        dueCorks(with("a010n"), 39, 0);
    }

    static void promise23NoBottles() {
        dueCorks(with("", "a"), 0, NONE);
    }

    static void promise23NoneAreNeeded() {
        dueCorks(with("a050n", "a"), 3, 0);
        dueCorks(with("a109n;b109n", "ab"), 39, 0);
    }

    static void promise23One() {
        dueCorks(with("b050n;a050n", "a"), 4, 1, 1);
        dueCorks(with("b050n;a050n", "a"), 39, 1, 1);
    }

    static void promise23OnDay0() {
        dueCorks(with("a010n", "a"), 0, 1, 0);
        dueCorks(with("a010n", "a"), 39, 1, 0);
    }

    static void promise23Two() {
        dueCorks(with("a050n;c050n;b050n", "ab"), 4, 2, 0, 2);
    }

    static void promise23Three() {
        dueCorks(with("d050n;c050n;b050n;a050n", "abc"), 4, 3, 1, 2, 3);
    }

    static void promise23FourAreTooMany() {
        dueCorks(with("d050n;c050n;b050n;a050n", "abcd"), 4, NONE);
        dueCorks(with("d050n;c050n;b050n;a050n", "abcd"), 3, 0);
    }

    static void promise23ThreeOfEight() {
        String eight = "a050n;b050n;c050n;d050n;e050n;f050n;g050n;h050n";
        dueCorks(with(eight, "hgf"), 39, 3, 5, 6, 7);
        dueCorks(with(eight, "h"), 39, 1, 7);
        dueCorks(with(eight, "ah"), 39, 2, 0, 7);
        dueCorks(with(eight, "abcd"), 39, NONE);
    }

    static void promise23FewerGoAheadOfALesserRow() {
        BreathSold x = with("a050n;b050n;c050n;a050n", "a");
        x.act(5, JOIN, 0, 1);
        // 0 and 1 together would do too, neither by itself.
        dueCorks(x, 39, 1, 3);
        x.wipe(0);
        typeAll(x, 0, "a050n;b050n;c050n;b050n");
        dueCorks(x, 39, 2, 0, 1);
    }

    static void promise23TheLeastRowByItsFirstFirst() {
        BreathSold x = with("a050n;a050n;b050n;b050n", "a");
        x.act(5, JOIN, 0, 3);
        x.act(5, JOIN, 1, 2);
        // 0 and 3 would do, or 1 and 2.
        dueCorks(x, 39, 2, 0, 3);
    }

    static void promise23OfLikeOnesTheLeastRow() {
        dueCorks(with("c050n;a050n;a050n", "a"), 39, 1, 1);
        dueCorks(with("b050n;b050n;a050n;a050n", "ab"), 39, 2, 0, 2);
        dueCorks(with("a050n;a050n;a050n;a050n;b050n", "aab"), 39, 3, 0, 1, 4);
    }

    static void promise23ABottleThatAJoinNeeds() {
        BreathSold x = with("a050n;b109n", "a");
        x.act(1, JOIN, 0, 1);
        dueCorks(x, 39, 0);
        x.back(0);
        x.act(6, JOIN, 0, 1);
        dueCorks(x, 39, 1, 0);
    }

    static void promise23ACorkThatMakesItBurst() {
        BreathSold x = with("a610s", "a");
        x.hot(0);
        due("open it holds 54", 0, x.corks(0, NONE));
        // Corked it holds 61 and bursts, open it leaks out.
        dueCorks(x, 39, NONE);
    }

    static void promise23ACorkedOneStillLeaksOfAHundred() {
        BreathSold x = with("a500s;a509n", "a");
        x.act(0, JOIN, 1, 0);
        x.hot(0);
        x.burst(100);
        // Of 100 behind its leak there are 99, and it does not burst.
        dueCorks(x, 39, 1, 0);
        x.burst(99);
        dueCorks(x, 39, NONE);
    }

    static void promise23NothingIsCorkedByAsking() {
        BreathSold x = with("a050n", "a");
        due(1, x.corks(4, NONE));
        due("still open", 0, x.holds(4, 0, NONE));
        due("no act", 0, x.count(4));
        asked(y -> y.corks(39, NONE) + y.corks(39, 0));
    }

    static void promise23WithSixteenActs() {
        BreathSold x = with("a050n;b999n", "a");
        for (int a = 0; a < 16; a++) {
            x.act(0, SALE, 1, 0);
        }
        dueCorks(x, 39, 1, 0);
    }

    static void promise23AnotherDayAndBack() {
        BreathSold x = with("a050n", "a");
        due(0, x.corks(3, NONE));
        due(1, x.corks(4, NONE));
        due(0, x.corks(3, NONE));
        x.act(0, CORKED, 0, 0);
        due("told otherwise", 0, x.corks(3, NONE));
        due("told otherwise", 0, x.corks(4, NONE));
    }

    static void promise23AskedAgainBehindEachTelling() {
        BreathSold x = with("a050n;b509s", "ab");
        due(1, x.corks(4, NONE));
        x.hot(0);
        due("a hot day", 1, x.corks(4, NONE));
        x.burst(50);
        due("BURST", NONE, x.corks(4, NONE));
        x.back(1);
        due("a hot day undone", 1, x.corks(4, NONE));
        x.undo(1);
        due("the song", 1, x.corks(4, NONE));
        x.wipe(1);
        due("no song", 0, x.corks(4, NONE));
        x.type(1, 'b');
        due("another song", 0, x.corks(4, NONE));
        x.wipe(0);
        due("no bottles", NONE, x.corks(4, NONE));
    }

    // ---- 24 most: "MOST; NONE. BAD."

    static void promise24NoSuchDay() {
        refusedBeyond(0, 39, BAD, (x, day) -> x.most(day, 0));
    }

    static void promise24NoSuchVoice() {
        refusedBeyond(0, 7, BAD, (x, voice) -> x.most(0, voice));
    }

    static void promise24NoBottles() {
        due(NONE, new BreathSold().most(0, 0));
        due(NONE, new BreathSold().most(39, 7));
    }

    static void promise24LeastAndGreatestVoice() {
        due(0, with("a109n;h109n").most(0, 0));
        due(1, with("a109n;h109n").most(0, 7));
        due(7, with(EIGHT).most(0, 7));
        due("there is none", NONE, with("a109n;h109n").most(0, 6));
    }

    static void promise24OfLikeOnesTheLeast() {
        due(1, with("b999n;a109n;a109n;a109n").most(0, 0));
        due("one more is more", 3, with("b999n;a109n;a109n;a119n").most(0, 0));
    }

    static void promise24OfThatVoiceNotAltogether() {
        BreathSold x = with("a109n;b999n;a119n");
        x.act(0, JOIN, 1, 0);
        due(2, x.most(0, 0));
        due(0, x.most(0, 1));
    }

    static void promise24TheLastBitOfIt() {
        BreathSold x = with("b109n;a020n");
        due("1 is left", 1, x.most(0, 0));
        due("none is left", NONE, x.most(1, 0));
    }

    static void promise24LikeBehindALeak() {
        BreathSold x = with("a109n;a110n");
        // 11 with cork 0 leaks 2.
        due("10 and 9", 0, x.most(0, 0));
        x.wipe(0);
        typeAll(x, 0, "a109n;a120n");
        due("10 and 10", 0, x.most(0, 0));
        x.wipe(0);
        typeAll(x, 0, "a109n;a130n");
        due("10 and 11", 1, x.most(0, 0));
    }

    static void promise24BehindDay39() {
        BreathSold x = with("a109n;a209n");
        x.act(39, BREAK, 1, 0);
        due(1, x.most(38, 0));
        due(0, x.most(39, 0));
    }
}
