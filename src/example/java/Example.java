/** A first use of BreathSold; README.md shows it, with what it prints. */
public final class Example {
    private static final int BOTTLES = 0, SONG = 1;
    private static final int SALE = 0, JOIN = 1, BREAK = 2, CORKED = 3;

    public static void main(String[] args) {
        BreathSold x = new BreathSold();
        type(x, BOTTLES, "a500s;b309n;b993s");      // whose breath, how much, its cork, its shelf
        type(x, SONG, "ba");
        x.act(0, CORKED, 0, 0);                     // on day 0 bottle 0 has a better cork
        x.act(2, SALE, 1, 4);                       // on day 2 bottle 1 comes to owner 4
        x.act(3, JOIN, 0, 1);                       // on day 3 all that is in bottle 0 comes into bottle 1
        x.act(6, BREAK, 1, 0);                      // on day 6 bottle 1 breaks, and is heard
        x.hot(1);                                   // on day 1 what holds 60 or more on shelf s bursts

        System.out.println("in bottle 1 behind day 3: " + x.holds(3, 1, BreathSold.NONE));
        System.out.println("who has it: " + x.who(3, 1));
        System.out.println("bottle 2 is whole: " + x.whole(1, 2) + ", spilled of b: " + x.spilled(1, 1));
        System.out.println("heard of a by day 6: " + x.heard(6, 0));
        System.out.println("the song behind day 0: " + x.sing(0, 0) + " then " + x.sing(0, 1)
            + ", spilling " + x.sing(0, BreathSold.NONE));
        System.out.println("the song behind day 3: " + (x.sing(3, BreathSold.NONE) == BreathSold.NONE ? "none" : "some"));
        System.out.println("bottle 2 stays whole by " + x.heat(4, 2, 1, 0) + " in " + x.heat(4, 2, 1, 1));
        System.out.println("a bottle that there is not: " + (x.who(3, 7) == BreathSold.BAD ? "BAD" : "?"));
        System.out.println("a sheet that is lost: " + x.lose(0) + ", found " + x.count(8));
    }

    private static void type(BreathSold x, int text, String signs) {
        for (int i = 0; i < signs.length(); i++) {
            x.type(text, signs.charAt(i));
        }
    }
}
