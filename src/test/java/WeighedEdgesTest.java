import java.math.BigInteger;

/** The edges of promises 25 to 31: weighed, heat, markets. */
public final class WeighedEdgesTest extends Edges {
    public static void main(String[] args) throws IllegalAccessException {
        runAll(WeighedEdgesTest.class, 25, 31);
    }

    // ---- 25 weighed: "WEIGHED more: how many. BAD; FULL."; "8 at most: behind a DAY a BOTTLE (0 to 7) held so much (0 to 999)"

    static void promise25NoSuchDay() {
        refusedBeyond(0, 39, BAD, (x, day) -> x.weighed(day, 0, 5));
    }

    static void promise25LeastAndGreatestDay() {
        BreathSold x = with("a109n");
        x.act(39, BREAK, 0, 0);
        x.act(0, SALE, 0, 1);
        due(1, x.weighed(0, 0, 10));
        due("without either", 3, x.hid());
        due(2, x.weighed(39, 0, 10));
        due("without the break", 1, x.hid());
        x.forget();
        due(1, x.weighed(39, 0, 0));
        due("without the sale", 2, x.hid());
        due(2, x.weighed(38, 0, 0));
        due("without neither", 0, x.hid());
    }

    static void promise25NoSuchBottle() {
        refusedBeyond(0, 7, BAD, (x, b) -> x.weighed(0, b, 5));
    }

    static void promise25LeastAndGreatestBottle() {
        BreathSold x = with(EIGHT);
        due(1, x.weighed(0, 0, 89));
        due(2, x.weighed(0, 7, 12));
        x.act(0, SALE, 0, 1);
        due("both are so", 1, x.hid());
    }

    static void promise25ABottleThatThereIsNot() {
        BreathSold x = new BreathSold();
        due(1, x.weighed(0, 0, 0));
        due(2, x.weighed(0, 7, 0));
        due(BAD, x.weighed(0, 8, 0));
    }

    static void promise25NoSuchMuch() {
        refusedBeyond(0, 999, BAD, (x, much) -> x.weighed(0, 0, much));
    }

    static void promise25LeastAndGreatestMuch() {
        BreathSold x = with("a010n");
        x.act(0, SALE, 0, 1);
        due(1, x.weighed(0, 0, 0));
        due("none is in it", 1, x.hid());
        due(2, x.weighed(0, 0, 999));
        due("999 is not", 0, x.hid());
    }

    static void promise25TheEighthIsTaken() {
        BreathSold x = with("a109n");
        x.act(0, SALE, 0, 1);
        for (int i = 0; i < 7; i++) {
            due("weighed " + i, i + 1, x.weighed(i, 0, 10));
        }
        due("all so", 1, x.hid());
        due(8, x.weighed(9, 0, 11));
        due("the eighth is not so", 0, x.hid());
    }

    static void promise25NoRoomForANinth() {
        refusedWhenFull(FULL, x -> x.weighed(0, 0, 0));
        refusedWhenFull(FULL, x -> x.weighed(39, 7, 999));
    }

    static void promise25BadAheadOfFull() {
        refusedWhenFull(BAD, x -> x.weighed(40, 0, 0));
        refusedWhenFull(BAD, x -> x.weighed(0, 8, 0));
        refusedWhenFull(BAD, x -> x.weighed(0, 0, 1000));
    }

    // ---- 26 forget: "All WEIGHED are forgotten: how many."

    static void promise26NothingWeighedYet() {
        BreathSold x = new BreathSold();
        due(0, x.forget());
        due("once more", 0, x.forget());
    }

    static void promise26AllEight() {
        BreathSold x = full();
        due(8, x.forget());
        due("weighed", 0, x.count(7));
        due("none is left", 0, x.forget());
    }

    static void promise26RoomAgain() {
        BreathSold x = full();
        x.forget();
        due(1, x.weighed(0, 0, 0));
    }

    static void promise26WhatWasWeighedBindsNoMore() {
        BreathSold x = with("a109n");
        x.act(0, SALE, 0, 1);
        x.weighed(0, 0, 11);
        due(0, x.hid());
        x.forget();
        due(1, x.hid());
        due("acts stay", 1, x.count(4));
    }

    // ---- 27 hid: "HID, as bits."

    static void promise27NoActs() {
        due(0, new BreathSold().hid());
        due(0, with("a109n").hid());
    }

    static void promise27NothingWeighedHidesAll() {
        BreathSold x = with("a109n");
        x.act(0, SALE, 0, 1);
        due(1, x.hid());
        due("sixteen", 65535, fullForgotten().hid());
    }

    private static BreathSold fullForgotten() {
        BreathSold x = full();
        x.forget();
        return x;
    }

    static void promise27TheSixteenthAlone() {
        BreathSold x = with("a109n;b109n");
        for (int a = 0; a < 15; a++) {
            x.act(0, SALE, 0, 1);
        }
        x.act(0, BREAK, 1, 0);
        x.weighed(0, 1, 10);
        due(1 << 15, x.hid());
    }

    static void promise27TheFirstAlone() {
        BreathSold x = with("a109n;b109n");
        x.act(0, BREAK, 1, 0);
        for (int a = 0; a < 15; a++) {
            x.act(0, SALE, 0, 1);
        }
        x.weighed(0, 1, 10);
        due(1, x.hid());
    }

    static void promise27OfABottleThatThereIsNotNever() {
        BreathSold x = with("a109n");
        x.act(0, SALE, 0, 1);
        x.weighed(0, 1, 0);
        due(0, x.hid());
        typeAll(x, 0, ";b010n");
        due("now it is there, and empty", 1, x.hid());
        x.weighed(0, 7, 0);
        due("nor of one far behind", 0, x.hid());
    }

    static void promise27AnActOfABottleThatThereIsNot() {
        BreathSold x = with("a109n");
        x.act(0, BREAK, 7, 0);
        due(1, x.hid());
        x.weighed(0, 0, 10);
        due("it is so without it", 1, x.hid());
    }

    static void promise27ItAloneNotTwoOfThem() {
        BreathSold x = with("a109n");
        x.act(0, BREAK, 0, 0);
        x.act(0, BREAK, 0, 0);
        x.weighed(0, 0, 10);
        due("the other one breaks it", 0, x.hid());
    }

    static void promise27AllThatWasWeighed() {
        BreathSold x = with("a109n;b109n");
        x.act(0, BREAK, 0, 0);
        x.act(0, BREAK, 1, 0);
        x.weighed(0, 0, 10);
        due(1, x.hid());
        x.weighed(0, 1, 10);
        due("both at once", 0, x.hid());
    }

    static void promise27OneMoreOrLessIsNotSo() {
        BreathSold x = with("a109n");
        x.act(0, SALE, 0, 1);
        for (int much = 9; much <= 11; much++) {
            x.forget();
            x.weighed(39, 0, much);
            due("weighed " + much, much == 10 ? 1 : 0, x.hid());
        }
    }

    static void promise27ThatItIsSoWithAllIsNotAsked() {
        BreathSold x = with("a109n;b109n");
        x.act(0, BREAK, 0, 0);
        x.act(0, SALE, 1, 1);
        x.weighed(0, 0, 0);
        due("so without the sale alone", 2, x.hid());
    }

    static void promise27AskingChangesNothing() {
        asked(x -> x.hid());
    }

    // ---- 28 swapped: "SWAPPED: how many (what = 0), the least (1; NONE). BAD."

    static void promise28NoSuchWhat() {
        refusedBeyond(0, 1, BAD, (x, what) -> x.swapped(what));
    }

    private static void dueSwapped(BreathSold x, int pairs, int least) {
        due("pairs", pairs, x.swapped(0));
        due("the least", least, x.swapped(1));
    }

    static void promise28NoBottles() {
        dueSwapped(new BreathSold(), 0, NONE);
    }

    static void promise28OneBottleIsNoPair() {
        dueSwapped(with("a109n"), 0, NONE);
    }

    static void promise28TwoBottles() {
        dueSwapped(with("a109n;b209n"), 1, 1);
    }

    static void promise28EightBottles() {
        dueSwapped(with(EIGHT), 28, 1);
    }

    static void promise28TheGreatestPair() {
        BreathSold x = with("a019n;a029n;a039n;a049n;a059n;a069n;a079n;a089n");
        x.weighed(0, 6, 8);
        dueSwapped(x, 1, 8 * 6 + 7);
    }

    static void promise28TheLesserIsToldFirst() {
        BreathSold x = with("a019n;a029n;a039n");
        x.weighed(0, 2, 1);
        dueSwapped(x, 1, 8 * 0 + 2);
    }

    static void promise28OfABottleThatThereIsNotNever() {
        BreathSold x = with("a109n;b109n");
        x.weighed(0, 2, 0);
        dueSwapped(x, 0, NONE);
        x.forget();
        x.weighed(0, 7, 0);
        dueSwapped(x, 0, NONE);
    }

    static void promise28WithoutASwapItIsNotAsked() {
        BreathSold x = with("a109n;b209n");
        x.weighed(0, 0, 10);
        dueSwapped(x, 0, NONE);
    }

    static void promise28LikeOnesMakeNoDifference() {
        BreathSold x = with("a109n;a109n");
        x.weighed(0, 0, 10);
        dueSwapped(x, 1, 1);
    }

    static void promise28ItsCorkComesAlong() {
        BreathSold x = with("a990n;b999n");
        x.weighed(0, 0, 99);
        x.weighed(0, 1, 89);
        dueSwapped(x, 1, 1);
    }

    static void promise28ItsShelfComesAlong() {
        BreathSold x = with("a609s;b609n");
        x.hot(0);
        x.weighed(0, 0, 60);
        x.weighed(0, 1, 0);
        dueSwapped(x, 1, 1);
    }

    static void promise28ItsShelfGoesBackBehindEachPair() {
        BreathSold x = with("a609s;b609n;c609n");
        x.hot(0);
        x.weighed(0, 0, 60);
        x.weighed(0, 1, 60);
        x.weighed(0, 2, 0);
        dueSwapped(x, 1, 2);
    }

    static void promise28ItsVoiceComesAlong() {
        BreathSold x = with("a999n;b999n;b999n");
        x.act(0, JOIN, 1, 2);
        // 198 of one voice leak 1, 99 of each of two none.
        x.weighed(0, 2, 198);
        dueSwapped(x, 2, 1);
    }

    static void promise28ActsStayWithThePlaces() {
        BreathSold x = with("a109n;b209n");
        x.act(0, BREAK, 0, 0);
        x.weighed(0, 0, 0);
        x.weighed(0, 1, 10);
        dueSwapped(x, 1, 1);
    }

    static void promise28AskingChangesNothing() {
        asked(x -> x.swapped(0) + x.swapped(1));
    }

    // ---- 29 weigh: "WEIGH; NONE. BAD."

    static void promise29NoSuchDay() {
        refusedBeyond(0, 39, BAD, (x, day) -> x.weigh(day));
    }

    static void promise29NoBottles() {
        due(NONE, new BreathSold().weigh(0));
        due(NONE, new BreathSold().weigh(39));
        BreathSold x = new BreathSold();
        x.act(0, BREAK, 0, 0);
        due("with an act", NONE, x.weigh(0));
    }

    static void promise29NoActs() {
        due(0, with(EIGHT).weigh(0));
        due(0, with(EIGHT).weigh(39));
    }

    static void promise29OneAct() {
        BreathSold x = with("a109n;b109n");
        x.act(0, BREAK, 1, 0);
        due("one act is alike with itself", 0, x.weigh(0));
    }

    static void promise29TellsTwoActsApart() {
        BreathSold x = with("a109n;b109n;c109n");
        x.act(0, SALE, 0, 1);
        x.act(0, BREAK, 2, 0);
        due(2, x.weigh(0));
    }

    static void promise29OfLikeOnesTheLeast() {
        BreathSold x = with("a109n;b109n;c109n");
        x.act(0, SALE, 0, 1);
        x.act(0, JOIN, 2, 1);
        due("1 and 2 tell alike", 1, x.weigh(0));
    }

    static void promise29TheGreatestNumberIsLeast() {
        BreathSold x = with("a109n;b109n;c109n;d109n");
        x.act(0, BREAK, 0, 0);
        x.act(0, JOIN, 1, 2);
        x.act(0, JOIN, 3, 2);
        x.act(0, SALE, 3, 1);
        // By 0: 1 and 3 acts; by 1 and 3 likewise; by 2: without 1 or 2 it holds 20, else 30: 2 and 2.
        due(2, x.weigh(0));
    }

    static void promise29TheFirstBottleTellsMost() {
        BreathSold x = with("a109n;b209n;c309n");
        x.act(0, JOIN, 1, 0);
        x.act(0, JOIN, 2, 0);
        x.act(0, SALE, 0, 1);
        // By 0 each act by itself, 40, 30 or 60; by 1 and by 2 one and two.
        due(0, x.weigh(0));
    }

    static void promise29OfThoseActsThatHidAlone() {
        BreathSold x = with("a109n;b109n;c109n");
        x.act(0, BREAK, 1, 0);
        x.act(0, SALE, 0, 1);
        x.act(0, BREAK, 2, 0);
        due("of all three", 1, x.weigh(0));
        x.weighed(0, 1, 0);
        due("the break of 1 is out", 2, x.weigh(0));
        x.weighed(0, 1, 5);
        due("none is left", 0, x.weigh(0));
    }

    static void promise29ActsBehindOneThatDidNotHide() {
        BreathSold x = with("a109n;b109n;c109n");
        x.act(0, BREAK, 2, 0);
        x.act(0, SALE, 0, 1);
        x.act(0, BREAK, 1, 0);
        x.weighed(0, 2, 0);
        // Without the break of 2 it would hold 10: the sale and the break of 1 are left.
        due(1, x.weigh(0));
    }

    static void promise29AsTheBottlesStandAtFirst() {
        BreathSold x = with("a990s;b019n");
        x.hot(0);
        x.act(0, SALE, 0, 1);
        x.act(0, CORKED, 0, 0);
        x.burst(99);
        // Corked, 0 holds 99 and bursts; without that 89 are in it.
        due(0, x.weigh(0));
        BreathSold y = with("b019n;a990s");
        y.act(0, SALE, 0, 1);
        y.act(0, CORKED, 1, 0);
        due(1, y.weigh(0));
        BreathSold z = with("b019n;a999s;c990n");
        z.act(0, SALE, 0, 1);
        z.act(0, CORKED, 1, 0);
        z.act(0, CORKED, 0, 0);
        due("corks of 9 make no difference", 0, z.weigh(0));
    }

    static void promise29BehindThatDay() {
        BreathSold x = with("a109n;b109n");
        x.act(39, BREAK, 1, 0);
        x.act(0, SALE, 0, 1);
        due("all alike on day 38", 0, x.weigh(38));
        due("apart on day 39", 1, x.weigh(39));
    }

    static void promise29TheLastOfEightAndTheSixteenth() {
        BreathSold x = with(EIGHT);
        for (int a = 0; a < 15; a++) {
            x.act(0, SALE, 0, 1);
        }
        x.act(0, BREAK, 7, 0);
        due(7, x.weigh(0));
    }

    static void promise29AskingChangesNothing() {
        asked(x -> x.weigh(39));
    }

    // ---- 30 heat: "HEAT: above, below. BAD. (As the least long.)"

    private static void dueHeat(BreathSold x, int c, int bottle, int day, long above, long below) {
        due(c + " sixteenths up to day " + day + ", above", above, x.heat(c, bottle, day, 0));
        due(c + " sixteenths up to day " + day + ", below", below, x.heat(c, bottle, day, 1));
    }

    static void promise30NoSuchChance() {
        refusedBeyond(0, 16, BAD_LONG, (x, c) -> x.heat(c, 0, 0, 0));
    }

    static void promise30NoSuchBottle() {
        refusedBeyond(0, 3, BAD_LONG, (x, b) -> x.heat(5, b, 0, 0));
        due("no bottles", BAD_LONG, new BreathSold().heat(5, 0, 0, 0));
        due("a ninth", BAD_LONG, with(EIGHT).heat(5, 8, 0, 0));
    }

    static void promise30NoSuchDay() {
        refusedBeyond(0, 9, BAD_LONG, (x, day) -> x.heat(5, 0, day, 0));
    }

    static void promise30NoSuchWhat() {
        refusedBeyond(0, 1, BAD_LONG, (x, what) -> x.heat(5, 0, 0, what));
    }

    static void promise30ARefusalIsTheLeastLongAnd2() {
        due(-9223372036854775806L, new BreathSold().heat(0, 0, 0, 0));
    }

    static void promise30NeverHot() {
        BreathSold x = with("a999s");
        x.hot(0);
        dueHeat(x, 0, 0, 0, 1, 1);
        dueHeat(x, 0, 0, 9, 1, 1);
    }

    static void promise30AlwaysHot() {
        BreathSold x = with("a999s;a999n");
        dueHeat(x, 16, 0, 0, 0, 1);
        dueHeat(x, 16, 0, 9, 0, 1);
        dueHeat(x, 16, 1, 9, 1, 1);
    }

    static void promise30InPlaceOfWhatIsTold() {
        BreathSold x = with("a999s");
        for (int day = 0; day < 8; day++) {
            x.hot(day);
        }
        dueHeat(x, 8, 0, 1, 1, 4);
        due("as told it bursts", 0, x.whole(0, 0));
    }

    static void promise30Day0AndDay9() {
        BreathSold x = with("a999s");
        dueHeat(x, 5, 0, 0, 11, 16);
        dueHeat(x, 5, 0, 9, 25937424601L, 1099511627776L);
        dueHeat(x, 1, 0, 9, 576650390625L, 1099511627776L);
        dueHeat(x, 15, 0, 9, 1, 1099511627776L);
    }

    static void promise30LowestTerms() {
        BreathSold x = with("a999s");
        dueHeat(x, 8, 0, 0, 1, 2);
        dueHeat(x, 8, 0, 9, 1, 1024);
        dueHeat(x, 4, 0, 0, 3, 4);
        dueHeat(x, 12, 0, 1, 1, 16);
        dueHeat(x, 6, 0, 0, 5, 8);
        dueHeat(x, 14, 0, 2, 1, 512);
    }

    static void promise30BurstOrMore() {
        dueHeat(with("a609s"), 8, 0, 0, 1, 2);
        dueHeat(with("a599s"), 8, 0, 9, 1, 1);
        BreathSold x = with("a609s");
        x.burst(61);
        dueHeat(x, 8, 0, 9, 1, 1);
    }

    static void promise30BehindTheLeak() {
        // 68 with cork 0 leaks 7 and bursts on day 0 alone; of 66 there are 59 behind the leak.
        dueHeat(with("a680s"), 5, 0, 0, 11, 16);
        dueHeat(with("a680s"), 5, 0, 9, 11, 16);
        dueHeat(with("a660s"), 5, 0, 9, 1, 1);
    }

    static void promise30ABrokenOneIsNotWhole() {
        BreathSold x = with("a109n;b999s");
        x.act(3, BREAK, 0, 0);
        x.act(2, BREAK, 1, 0);
        dueHeat(x, 8, 0, 2, 1, 1);
        dueHeat(x, 8, 0, 3, 0, 1);
        dueHeat(x, 8, 0, 9, 0, 1);
        dueHeat(x, 8, 1, 1, 1, 4);
        dueHeat(x, 8, 1, 2, 0, 1);
    }

    static void promise30ActsBehindThatDayDoNotCount() {
        BreathSold x = with("a109n");
        x.act(10, BREAK, 0, 0);
        dueHeat(x, 8, 0, 9, 1, 1);
    }

    static void promise30AJoinThatCanBeBySomeChanceAlone() {
        BreathSold x = with("a609s;b309s");
        x.act(1, JOIN, 0, 1);
        // Hot on day 0: 0 has burst, 1 is safe. Else 1 holds 90 on day 1.
        dueHeat(x, 8, 1, 0, 1, 1);
        dueHeat(x, 8, 1, 1, 3, 4);
        dueHeat(x, 8, 1, 2, 5, 8);
        dueHeat(x, 16, 1, 9, 1, 1);
        dueHeat(x, 4, 1, 1, 13, 16);
        dueHeat(x, 8, 0, 0, 1, 2);
        dueHeat(x, 8, 0, 9, 1, 2);
    }

    static void promise30TheLastOfEight() {
        BreathSold x = with("a019n;a019n;a019n;a019n;a019n;a019n;a019n;a999s");
        dueHeat(x, 8, 7, 0, 1, 2);
        dueHeat(x, 8, 7, 9, 1, 1024);
    }

    static void promise30OfEachVoiceByItself() {
        BreathSold x = with("a999s;b999n");
        x.act(0, JOIN, 1, 0);
        x.burst(198);
        // 99 of each of two voices do not leak.
        dueHeat(x, 8, 0, 0, 1, 2);
        dueHeat(x, 8, 0, 9, 1, 1024);
    }

    static void promise30TheVoiceOfTheLastOfEight() {
        BreathSold x = with("b019n;b019n;b019n;b019n;b019n;b019n;a999n;h999s");
        x.act(0, JOIN, 6, 7);
        x.burst(198);
        dueHeat(x, 8, 7, 0, 1, 2);
    }

    static void promise30AskingChangesNothing() {
        asked(x -> x.heat(5, 0, 9, 0));
    }

    // ---- 31 market: "MARKET: who has it, how many WORK (bottle = NONE). BAD."

    static void promise31NoSuchDay() {
        refusedBeyond(0, 39, BAD, (x, day) -> x.market(7, day, NONE));
    }

    static void promise31NoSuchBottle() {
        refusedBeyond(NONE, 3, BAD, (x, b) -> x.market(7, 0, b));
        due("a ninth", BAD, with(EIGHT).market(7, 0, 8));
    }

    static void promise31NoBottles() {
        due(0, new BreathSold().market(7, 0, NONE));
        due(0, new BreathSold().market(7, 39, NONE));
        due(BAD, new BreathSold().market(7, 0, 0));
    }

    /** The lots by numbers that do not wrap, cut to 32 bits: who has each bottle, and behind them how many work. */
    private static int[] marketOf(int seed, int bottles, int day) {
        BigInteger round = BigInteger.ONE.shiftLeft(32);
        BigInteger s = BigInteger.valueOf(seed);
        int[] all = new int[bottles + 1];
        for (int d = 0; d <= day; d++) {
            s = s.multiply(BigInteger.valueOf(1103515245)).add(BigInteger.valueOf(12345)).mod(round);
            int sold = s.shiftRight(16).intValue() % bottles;
            s = s.multiply(BigInteger.valueOf(1103515245)).add(BigInteger.valueOf(12345)).mod(round);
            int to = s.shiftRight(16).intValue() % 6;
            all[bottles] += all[sold] == to ? 0 : 1;
            all[sold] = to;
        }
        return all;
    }

    private static void dueMarket(BreathSold x, int seed, int bottles, int day) {
        int[] all = marketOf(seed, bottles, day);
        for (int b = 0; b < bottles; b++) {
            due("seed " + seed + " day " + day + " bottle " + b, all[b], x.market(seed, day, b));
        }
        due("seed " + seed + " day " + day + " work", all[bottles], x.market(seed, day, NONE));
    }

    static void promise31SeedsThatGoRound() {
        for (int seed : new int[] {0, 1, -1, 7, LEAST, GREATEST, 123456789, -123456789}) {
            dueMarket(with("a109n;b109n;c109n"), seed, 3, 0);
            dueMarket(with("a109n;b109n;c109n"), seed, 3, 20);
        }
    }

    static void promise31Day0IsOneSaleAndDay39Forty() {
        for (int bottles = 1; bottles <= 8; bottles++) {
            BreathSold x = with(EIGHT.substring(0, 6 * bottles - 1));
            dueMarket(x, 5, bottles, 0);
            dueMarket(x, 5, bottles, 39);
        }
    }

    static void promise31FromSeed0() {
        BreathSold x = with("a109n");
        // 12345, whose upper bits are 0; then 3554416254, whose upper bits are 54236, modulo 6.
        due("who has it", 2, x.market(0, 0, 0));
        due("it works", 1, x.market(0, 0, NONE));
    }

    static void promise31ToTheOneItIsWithDoesNotWork() {
        BreathSold x = with("a109n");
        x.act(0, SALE, 0, 2);
        due("who has it", 2, x.market(0, 0, 0));
        due("it does not work", 0, x.market(0, 0, NONE));
    }

    static void promise31ToldBehindAllOthers() {
        BreathSold x = with("a109n");
        x.act(0, SALE, 0, 3);
        due("behind the act of that day", 2, x.market(0, 0, 0));
        due("it works", 1, x.market(0, 0, NONE));
    }

    /** From seed 2 bottle 0 goes to 5 on day 0, bottle 1 to 4 and to 5 on days 1 and 2, bottle 0 to 1 on day 3. */
    static void promise31ActsAreOnTheirDays() {
        BreathSold x = with("a109n;b109n");
        x.act(1, SALE, 0, 3);
        due("behind day 0", 5, x.market(2, 0, 0));
        due("behind day 1", 3, x.market(2, 1, 0));
        due("behind day 3", 1, x.market(2, 3, 0));
        due("the other behind day 0", 0, x.market(2, 0, 1));
        due("the other behind day 1", 4, x.market(2, 1, 1));
        due("all four work", 4, x.market(2, 3, NONE));
        x.act(3, SALE, 0, 1);
        due("the last does not", 3, x.market(2, 3, NONE));
    }

    static void promise31TheOtherActsAreNotCounted() {
        BreathSold x = with("a109n;b109n");
        x.act(0, SALE, 1, 4);
        x.act(0, BREAK, 0, 0);
        // From seed 0 bottle 0 is sold to 2.
        due(1, x.market(0, 0, NONE));
        due("the act holds", 4, x.market(0, 0, 1));
    }

    static void promise31NoRoomIsNeeded() {
        BreathSold x = full();
        due("sixteen acts are no hindrance", 1, Math.min(1, x.market(7, 39, NONE)));
        due("acts", 16, x.count(4));
    }

    static void promise31NothingIsSoldByAsking() {
        BreathSold x = with("a109n");
        x.market(0, 39, 0);
        due(0, x.who(39, 0));
        due("acts", 0, x.count(4));
        asked(y -> y.market(7, 39, NONE) + y.market(7, 39, 0));
    }
}
