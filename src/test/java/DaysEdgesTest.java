/** The edges of promises 13 to 21: days. */
public final class DaysEdgesTest extends Edges {
    public static void main(String[] args) throws IllegalAccessException {
        runAll(DaysEdgesTest.class, 13, 21);
    }

    // ---- 13 holds: "How much of a VOICE is in a BOTTLE (voice = NONE: altogether). BAD."

    static void promise13NoSuchDay() {
        refusedBeyond(0, 39, BAD, (x, day) -> x.holds(day, 0, NONE));
    }

    static void promise13LeastAndGreatestDay() {
        BreathSold x = with("a108n;a998n");
        due("day 0", 10, x.holds(0, 0, NONE));
        due("day 39", 10, x.holds(39, 0, NONE));
        due("a leak on day 0", 98, x.holds(0, 1, NONE));
        // A hundredth twice of 98 to 50 is 1 a day; it stays at 49 from then on, but there are 40 days alone.
        due("39 leaks more by day 39", 59, x.holds(39, 1, NONE));
        due("day 0 again", 98, x.holds(0, 1, NONE));
    }

    static void promise13NoSuchBottle() {
        refusedBeyond(0, 3, BAD, (x, b) -> x.holds(0, b, NONE));
    }

    static void promise13NoBottles() {
        due(BAD, new BreathSold().holds(0, 0, NONE));
        due(BAD, new BreathSold().holds(0, 0, 0));
    }

    static void promise13TheLastOfEight() {
        due(12, with(EIGHT).holds(0, 7, NONE));
        due(12, with(EIGHT).holds(0, 7, 7));
        due(BAD, with(EIGHT).holds(0, 8, NONE));
    }

    static void promise13NoSuchVoice() {
        refusedBeyond(NONE, 7, BAD, (x, voice) -> x.holds(0, 0, voice));
    }

    static void promise13LeastAndGreatestVoice() {
        BreathSold x = with("a109n;h209n");
        due(10, x.holds(0, 0, 0));
        due(0, x.holds(0, 0, 7));
        due(0, x.holds(0, 1, 0));
        due(20, x.holds(0, 1, 7));
    }

    static void promise13AltogetherOfEightVoices() {
        BreathSold x = with("a119n;b129n;c139n;d149n;e159n;f169n;g179n;h189n");
        for (int b = 0; b < 7; b++) {
            x.act(0, JOIN, b, 7);
        }
        due(11 + 12 + 13 + 14 + 15 + 16 + 17 + 18, x.holds(0, 7, NONE));
        for (int v = 0; v < 8; v++) {
            due("voice " + v, 11 + v, x.holds(0, 7, v));
        }
    }

    static void promise13TheMostThatThereCanBe() {
        BreathSold x = with("a999n;a999n;a999n;a999n;a999n;a999n;a999n;a999n");
        for (int b = 0; b < 7; b++) {
            x.act(0, JOIN, b, 7);
        }
        due(8 * 99 - 7, x.holds(0, 7, NONE));
        due(8 * 99 - 7, x.holds(0, 7, 0));
    }

    private static void leaks(String bottle, int left) {
        due(bottle, left, with(bottle).holds(0, 0, NONE));
    }

    static void promise13Cork0LeaksTenHundredthsAnd1() {
        leaks("a010n", 0);
        leaks("a020n", 1);
        leaks("a090n", 8);
        leaks("a100n", 8);
        leaks("a190n", 17);
        leaks("a200n", 17);
        leaks("a990n", 89);
    }

    static void promise13Cork1LeaksNineHundredths() {
        leaks("a011n", 1);
        leaks("a111n", 11);
        leaks("a121n", 11);
        leaks("a991n", 91);
    }

    static void promise13Cork2LeaksEightHundredths() {
        leaks("a122n", 12);
        leaks("a132n", 12);
        leaks("a992n", 92);
    }

    static void promise13Cork3LeaksSevenHundredths() {
        leaks("a143n", 14);
        leaks("a153n", 14);
        leaks("a993n", 93);
    }

    static void promise13Cork4LeaksSixHundredths() {
        leaks("a164n", 16);
        leaks("a174n", 16);
        leaks("a994n", 94);
    }

    static void promise13Cork5LeaksFiveHundredths() {
        leaks("a195n", 19);
        leaks("a205n", 19);
        leaks("a995n", 95);
    }

    static void promise13Cork6LeaksFourHundredths() {
        leaks("a246n", 24);
        leaks("a256n", 24);
        leaks("a996n", 96);
    }

    static void promise13Cork7LeaksThreeHundredths() {
        leaks("a337n", 33);
        leaks("a347n", 33);
        leaks("a997n", 97);
    }

    static void promise13Cork8LeaksTwoHundredths() {
        leaks("a498n", 49);
        leaks("a508n", 49);
        leaks("a998n", 98);
    }

    static void promise13Cork9LeaksOneHundredth() {
        leaks("a999n", 99);
        BreathSold x = with("a999n;a019n");
        x.act(0, JOIN, 1, 0);
        due("100 of a voice", 99, x.holds(0, 0, 0));
        due("99 of it", 99, x.holds(39, 0, 0));
    }

    static void promise13OfEachVoiceByItself() {
        BreathSold x = with("a999n;b999n");
        x.act(0, JOIN, 1, 0);
        due("198, but 99 of each", 198, x.holds(0, 0, NONE));
        BreathSold y = with("a050n;b050n");
        y.act(0, JOIN, 1, 0);
        due("1 more of each", 8, y.holds(0, 0, NONE));
    }

    static void promise13OfAVoiceThatIsNotThereNothingLeaks() {
        BreathSold x = with("a010n;b500n");
        due("none is left", 0, x.holds(0, 0, NONE));
        due("not below 0", 0, x.holds(1, 0, NONE));
        due("1 of day 0, 6 and 5 of the other", 1 + 6 + 5, x.leaked(1));
    }

    static void promise13TheCorkOfTheBottleItCameInto() {
        BreathSold x = with("a509n;b500n");
        x.act(0, JOIN, 0, 1);
        due("cork 0 now", 44, x.holds(0, 1, 0));
        BreathSold y = with("a509n;b500n");
        y.act(0, JOIN, 1, 0);
        due("cork 9 now", 50, y.holds(0, 0, 1));
    }

    static void promise13WhatIsNotWholeIsEmpty() {
        BreathSold x = with("a509n;b709s");
        x.act(0, BREAK, 0, 0);
        x.hot(0);
        due("broken", 0, x.holds(0, 0, NONE));
        due("burst", 0, x.holds(0, 1, NONE));
        due("nothing leaked", 0, x.leaked(39));
    }

    static void promise13AnAskedDayChangesNothing() {
        asked(x -> x.holds(39, 0, NONE) + x.holds(0, 0, NONE));
    }

    // ---- 14 who: "Who has it. BAD."; "with its OWNER (0 to 5; at first 0)"

    static void promise14NoSuchDay() {
        refusedBeyond(0, 39, BAD, (x, day) -> x.who(day, 0));
    }

    static void promise14NoSuchBottle() {
        refusedBeyond(0, 3, BAD, (x, b) -> x.who(0, b));
    }

    static void promise14NoBottles() {
        due(BAD, new BreathSold().who(0, 0));
    }

    static void promise14AtFirst0() {
        BreathSold x = with(EIGHT);
        for (int b = 0; b < 8; b++) {
            due("bottle " + b, 0, x.who(39, b));
        }
        due(BAD, x.who(0, 8));
    }

    static void promise14FromItsDayOn() {
        BreathSold x = with("a109n;b109n");
        x.act(7, SALE, 1, 5);
        due("ahead", 0, x.who(6, 1));
        due("behind its day", 5, x.who(7, 1));
        due("to the end", 5, x.who(39, 1));
        due("the other", 0, x.who(39, 0));
    }

    static void promise14OnDay0AndDay39() {
        BreathSold x = with("a109n");
        x.act(0, SALE, 0, 3);
        x.act(39, SALE, 0, 0);
        due(3, x.who(0, 0));
        due(3, x.who(38, 0));
        due(0, x.who(39, 0));
    }

    static void promise14AJoinSellsNothing() {
        BreathSold x = with("a109n;b109n");
        x.act(0, SALE, 0, 4);
        x.act(1, JOIN, 0, 1);
        due(4, x.who(1, 0));
        due(0, x.who(1, 1));
    }

    // ---- 15 whole: "Whether it is WHOLE: 1, 0. BAD."; "Each BOTTLE is WHOLE at first"

    static void promise15NoSuchDay() {
        refusedBeyond(0, 39, BAD, (x, day) -> x.whole(day, 0));
    }

    static void promise15NoSuchBottle() {
        refusedBeyond(0, 3, BAD, (x, b) -> x.whole(0, b));
    }

    static void promise15NoBottles() {
        due(BAD, new BreathSold().whole(0, 0));
    }

    static void promise15WholeAtFirst() {
        BreathSold x = with(EIGHT);
        for (int b = 0; b < 8; b++) {
            due("bottle " + b, 1, x.whole(39, b));
        }
        due(BAD, x.whole(0, 8));
    }

    static void promise15BrokenFromItsDayOn() {
        BreathSold x = with("a109n;b109n");
        x.act(7, BREAK, 1, 0);
        due("ahead", 1, x.whole(6, 1));
        due("behind its day", 0, x.whole(7, 1));
        due("to the end", 0, x.whole(39, 1));
        due("the other", 1, x.whole(39, 0));
    }

    static void promise15BurstFromTheHotDayOn() {
        BreathSold x = with("a609s");
        x.hot(7);
        due("ahead", 1, x.whole(6, 0));
        due("behind it", 0, x.whole(7, 0));
        due("to the end", 0, x.whole(39, 0));
    }

    static void promise15WhatLeaksOnTheDayIsGoneAheadOfTheHeat() {
        BreathSold x = with("a688s;a628s;a618s");
        x.hot(0);
        // A hundredth twice of each is 1.
        due("68 to 67", 0, x.whole(0, 0));
        due("62 to 61", 0, x.whole(0, 1));
        due("61 to 60", 0, x.whole(0, 2));
        x.wipe(0);
        typeAll(x, 0, "a608s");
        due("60 to 59", 1, x.whole(0, 0));
    }

    static void promise15JoinedOnTheHotDay() {
        BreathSold x = with("a309s;b309s");
        x.hot(2);
        x.act(2, JOIN, 0, 1);
        due("60 in it", 0, x.whole(2, 1));
        due("none in it", 1, x.whole(2, 0));
        due("spilled of both", 30, x.spilled(2, 0));
    }

    static void promise15AltogetherOfAllVoices() {
        BreathSold x = with("a309s;b299n;c019n");
        x.hot(0);
        x.act(0, JOIN, 1, 0);
        due("59 altogether", 1, x.whole(0, 0));
        x.act(0, JOIN, 2, 0);
        due("60 altogether", 0, x.whole(0, 0));
    }

    static void promise15EachThatHoldsSoMuchBursts() {
        BreathSold x = with("a609s;b609s;c609s;d609n");
        x.hot(0);
        due(0, x.whole(0, 0));
        due(0, x.whole(0, 1));
        due(0, x.whole(0, 2));
        due("on n", 1, x.whole(0, 3));
    }

    static void promise15AnotherShelfTyped() {
        BreathSold x = with("a609s");
        x.hot(0);
        due("on s", 0, x.whole(0, 0));
        x.undo(0);
        x.type(0, 'n');
        due("on n", 1, x.whole(0, 0));
        x.undo(0);
        x.type(0, 's');
        due("on s again", 0, x.whole(0, 0));
    }

    static void promise15ALeakedOutOneIsWhole() {
        due(1, with("a010n").whole(39, 0));
    }

    // ---- 16 has: "HAS, as bits. BAD."

    static void promise16NoSuchDay() {
        refusedBeyond(0, 39, BAD, (x, day) -> x.has(day, 0));
    }

    static void promise16NoSuchOwner() {
        refusedBeyond(0, 5, BAD, (x, owner) -> x.has(0, owner));
    }

    static void promise16NoBottles() {
        due(0, new BreathSold().has(0, 0));
        due(0, new BreathSold().has(39, 5));
    }

    static void promise16AllVoices() {
        due(255, with(EIGHT).has(0, 0));
        due("the other owners", 0, with(EIGHT).has(0, 1));
    }

    static void promise16LeastAndGreatestVoice() {
        due(1, with("a109n").has(0, 0));
        due(128, with("h109n").has(0, 0));
    }

    static void promise16TheGreatestOwner() {
        BreathSold x = with("a109n;h109n");
        x.act(3, SALE, 1, 5);
        due("ahead", 0, x.has(2, 5));
        due("behind its day", 128, x.has(3, 5));
        due("the one it was with", 1, x.has(3, 0));
    }

    static void promise16OneVoiceInTwoBottles() {
        BreathSold x = with("b109n;b109n");
        x.act(0, SALE, 1, 1);
        due(2, x.has(0, 0));
        due(2, x.has(0, 1));
    }

    static void promise16WhatHasLeakedOutIsNotThere() {
        BreathSold x = with("a020n;b109n");
        due("1 is left", 3, x.has(0, 0));
        due("none is left", 2, x.has(1, 0));
    }

    static void promise16WhatIsJoinedIsWithTheOtherOwner() {
        BreathSold x = with("a109n;b109n");
        x.act(0, SALE, 1, 2);
        x.act(1, JOIN, 0, 1);
        due(3, x.has(1, 2));
        due(0, x.has(1, 0));
    }

    static void promise16WhatIsHeardOrSpilledIsWithNone() {
        BreathSold x = with("a109n;b609s");
        x.act(0, BREAK, 0, 0);
        x.hot(0);
        due(0, x.has(0, 0));
    }

    // ---- 17 heard: "HEARD. BAD."

    static void promise17NoSuchDay() {
        refusedBeyond(0, 39, BAD, (x, day) -> x.heard(day, 0));
    }

    static void promise17NoSuchVoice() {
        refusedBeyond(0, 7, BAD, (x, voice) -> x.heard(0, voice));
    }

    static void promise17NoBottles() {
        due(0, new BreathSold().heard(0, 0));
        due(0, new BreathSold().heard(39, 7));
    }

    static void promise17LeastAndGreatestVoice() {
        BreathSold x = with("a109n;h209n");
        x.act(0, BREAK, 0, 0);
        x.act(0, BREAK, 1, 0);
        due(10, x.heard(0, 0));
        due(20, x.heard(0, 7));
    }

    static void promise17FromItsDayOn() {
        BreathSold x = with("a109n");
        x.act(39, BREAK, 0, 0);
        due("ahead", 0, x.heard(38, 0));
        due("by its day", 10, x.heard(39, 0));
    }

    static void promise17OfTwoDaysTogether() {
        BreathSold x = with("a999n;a999n");
        x.act(1, BREAK, 0, 0);
        x.act(2, BREAK, 1, 0);
        due(99, x.heard(1, 0));
        due(198, x.heard(2, 0));
        due(198, x.heard(39, 0));
    }

    static void promise17AnEmptyOneIsHeardAsNothing() {
        BreathSold x = with("a109n;b109n");
        x.act(0, JOIN, 0, 1);
        x.act(0, BREAK, 0, 0);
        due(0, x.heard(39, 0));
        due("it is broken", 0, x.whole(0, 0));
    }

    static void promise17AllThatIsInIt() {
        BreathSold x = with("a109n;b209n;a309n");
        x.act(0, JOIN, 0, 1);
        x.act(0, JOIN, 2, 1);
        x.act(0, BREAK, 1, 0);
        due(40, x.heard(0, 0));
        due(20, x.heard(0, 1));
    }

    // ---- 18 spilled: "SPILLED. BAD."

    static void promise18NoSuchDay() {
        refusedBeyond(0, 39, BAD, (x, day) -> x.spilled(day, 0));
    }

    static void promise18NoSuchVoice() {
        refusedBeyond(0, 7, BAD, (x, voice) -> x.spilled(0, voice));
    }

    static void promise18NoBottles() {
        due(0, new BreathSold().spilled(0, 0));
        due(0, new BreathSold().spilled(39, 7));
    }

    static void promise18LeastAndGreatestVoice() {
        BreathSold x = with("a609s;h709s");
        x.hot(0);
        due(60, x.spilled(0, 0));
        due(70, x.spilled(0, 7));
        due("no other", 0, x.spilled(0, 3));
    }

    static void promise18FromTheHotDayOn() {
        BreathSold x = with("a609s");
        x.hot(39);
        due("ahead", 0, x.spilled(38, 0));
        due("by it", 60, x.spilled(39, 0));
    }

    static void promise18OfTwoDaysTogether() {
        BreathSold x = with("a609s;a309s;a309n");
        x.hot(1);
        x.hot(5);
        x.act(5, JOIN, 2, 1);
        due(60, x.spilled(1, 0));
        due(60, x.spilled(4, 0));
        due(120, x.spilled(5, 0));
    }

    static void promise18OnceAlone() {
        BreathSold x = with("a609s");
        x.hot(1);
        x.hot(2);
        due(60, x.spilled(39, 0));
    }

    static void promise18WhatLeakedOnTheDayIsNotSpilled() {
        BreathSold x = with("a990s");
        x.hot(0);
        due("89 behind the leak", 89, x.spilled(0, 0));
        due("leaked", 10, x.leaked(0));
        due("not heard", 0, x.heard(0, 0));
    }

    static void promise18AllVoicesInIt() {
        BreathSold x = with("a309s;b309n");
        x.hot(0);
        x.act(0, JOIN, 1, 0);
        due(30, x.spilled(0, 0));
        due(30, x.spilled(0, 1));
    }

    // ---- 19 leaked: "LEAKED. BAD."

    static void promise19NoSuchDay() {
        refusedBeyond(0, 39, BAD, (x, day) -> x.leaked(day));
    }

    static void promise19NoBottles() {
        due(0, new BreathSold().leaked(0));
        due(0, new BreathSold().leaked(39));
    }

    static void promise19Day0Leaks() {
        due(10, with("a990n").leaked(0));
        due("by day 1", 10 + 9, with("a990n").leaked(1));
    }

    static void promise19AllOfItByDay39() {
        due(99, with("a990n").leaked(39));
        due("of two", 198, with("a990n;h990n").leaked(39));
    }

    static void promise19NothingLeaksOf99Corked() {
        due(0, with("a999n;b999s").leaked(39));
    }

    static void promise19OfAllVoicesInOneBottle() {
        BreathSold x = with("a100n;b100n");
        x.act(0, JOIN, 0, 1);
        due(4, x.leaked(0));
    }

    static void promise19WhatLeakedAndWhatIsLeft() {
        BreathSold x = with(EIGHT);
        x.act(3, BREAK, 0, 0);
        x.hot(5);
        int left = 0;
        for (int b = 0; b < 8; b++) {
            left += x.holds(39, b, NONE);
        }
        int gone = 0;
        for (int v = 0; v < 8; v++) {
            gone += x.heard(39, v) + x.spilled(39, v);
        }
        due("together what there was at first", 99 + 85 + 77 + 60 + 55 + 43 + 31 + 12, left + gone + x.leaked(39));
    }

    // ---- 20 lost: "LOST VOICES, as bits. BAD."

    static void promise20NoSuchDay() {
        refusedBeyond(0, 39, BAD, (x, day) -> x.lost(day));
    }

    static void promise20NoBottles() {
        due(0, new BreathSold().lost(0));
        due(0, new BreathSold().lost(39));
    }

    static void promise20OfSomeBottleThatThereIsAlone() {
        BreathSold x = with("a010n");
        due("the seven others never were", 1, x.lost(0));
    }

    static void promise20LeastAndGreatestVoice() {
        due(1, with("a010n;h999n").lost(0));
        due(128, with("a999n;h010n").lost(0));
    }

    static void promise20AllEight() {
        due(255, with("a010n;b010n;c010n;d010n;e010n;f010n;g010n;h010n").lost(0));
        due(0, with("a020n;b020n;c020n;d020n;e020n;f020n;g020n;h020n").lost(0));
        due(255, with("a020n;b020n;c020n;d020n;e020n;f020n;g020n;h020n").lost(1));
    }

    static void promise20TheLastOfItInAnyBottle() {
        BreathSold x = with("a010n;a020n;b999n");
        due("1 is left in another", 0, x.lost(0));
        due("none", 1, x.lost(1));
    }

    static void promise20WhoeverHasIt() {
        BreathSold x = with("a109n;b109n");
        x.act(0, SALE, 0, 5);
        x.act(0, SALE, 1, 1);
        due(0, x.lost(0));
    }

    static void promise20HeardAndSpilled() {
        BreathSold x = with("a109n;b609s;c109n");
        x.act(3, BREAK, 0, 0);
        x.hot(4);
        due("ahead", 0, x.lost(2));
        due("heard", 1, x.lost(3));
        due("spilled too", 3, x.lost(4));
    }

    static void promise20JoinedIsNotLost() {
        BreathSold x = with("a109n;b109n");
        x.act(0, JOIN, 0, 1);
        due(0, x.lost(39));
    }

    // ---- 21 works: "WORKS: 1, 0. BAD: no such."

    static void promise21NoSuchAct() {
        refusedBeyond(0, 3, BAD, (x, act) -> x.works(act));
    }

    static void promise21NoActsYet() {
        due(BAD, new BreathSold().works(0));
        due(BAD, new BreathSold().works(-1));
    }

    static void promise21TheSixteenth() {
        BreathSold x = with("a109n");
        for (int a = 0; a < 15; a++) {
            x.act(39, SALE, 0, 0);
        }
        x.act(39, SALE, 0, 5);
        due("the fifteenth", 0, x.works(14));
        due("the sixteenth", 1, x.works(15));
        due("no such", BAD, x.works(16));
    }

    static void promise21ASaleToTheOneItIsWith() {
        BreathSold x = with("a109n");
        x.act(1, SALE, 0, 0);
        x.act(2, SALE, 0, 5);
        x.act(3, SALE, 0, 5);
        x.act(4, SALE, 0, 0);
        due("with 0 at first", 0, x.works(0));
        due("to another", 1, x.works(1));
        due("with it already", 0, x.works(2));
        due("back", 1, x.works(3));
    }

    static void promise21CorkedThatWas9() {
        BreathSold x = with("a109n;b108n;c100n");
        x.act(0, CORKED, 0, 0);
        x.act(0, CORKED, 1, 0);
        x.act(0, CORKED, 2, 0);
        x.act(1, CORKED, 2, 0);
        due("9", 0, x.works(0));
        due("8", 1, x.works(1));
        due("0", 1, x.works(2));
        due("9 by then", 0, x.works(3));
    }

    static void promise21ABreakOfOneThatIsWhole() {
        BreathSold x = with("a109n;b609s");
        x.hot(0);
        x.act(1, BREAK, 0, 0);
        x.act(1, BREAK, 0, 0);
        x.act(1, BREAK, 1, 0);
        due("whole", 1, x.works(0));
        due("broken", 0, x.works(1));
        due("burst", 0, x.works(2));
    }

    static void promise21AnEmptyWholeOneBreaks() {
        BreathSold x = with("a010n");
        x.act(5, BREAK, 0, 0);
        due(1, x.works(0));
    }

    static void promise21AJoin() {
        BreathSold x = with("a109n;b109n");
        x.act(0, JOIN, 0, 0);
        x.act(0, JOIN, 0, 1);
        x.act(0, JOIN, 1, 2);
        x.act(0, JOIN, 2, 1);
        due("with itself", 0, x.works(0));
        due("of two", 1, x.works(1));
        due("into one that there is not", 0, x.works(2));
        due("from one that there is not", 0, x.works(3));
    }

    static void promise21OfABottleThatThereIsNot() {
        BreathSold x = with("a109n");
        x.act(0, SALE, 1, 3);
        x.act(0, JOIN, 1, 0);
        x.act(0, BREAK, 1, 0);
        x.act(0, CORKED, 1, 0);
        for (int a = 0; a < 4; a++) {
            due("act " + a, 0, x.works(a));
        }
        typeAll(x, 0, ";b100n");
        due("now it is there", 1, x.works(0));
        due("and broken by then", 1, x.works(2));
        due("and its cork was not 9", 1, x.works(3));
    }

    static void promise21OnDay0AndDay39() {
        BreathSold x = with("a109n");
        x.act(39, SALE, 0, 1);
        x.act(0, SALE, 0, 2);
        due(1, x.works(0));
        due(1, x.works(1));
    }
}
