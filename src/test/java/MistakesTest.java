/** Promises 21 to 23: wrong, swaps, alike. */
public final class MistakesTest {
    private static final int NONE = ShoesHall.NONE;

    public static void main(String[] args) {
        ringsOf("bacedf", 4, 2, 2, 2, 1, 2, 2, 1);
        ringsOf("bcdeaf", 5, 4, 5, 5, 5, 5, 5, 1);
        ringsOf("ab", 0, 0, 1, 1);
        ringsOf("", 0, 0);
        ringsOf("jabcdefghi", 10, 9, 10, 10, 10, 10, 10, 10, 10, 10, 10, 10);
        ringsOf("badcfehgji", 10, 5, 2, 2, 2, 2, 2, 2, 2, 2, 2, 2);
        ringsOf("bc", 0, 0);
        Check.due("wrong -2", new ShoesHall().wrong(-2), ShoesHall.BAD);
        pairsThatAreAlike();
        Check.end("MistakesTest");
    }

    private static void ringsOf(String worn, int wrong, int swaps, int... lengths) {
        ShoesHall x = new ShoesHall();
        Check.type(x, 2, worn);
        Check.due("wrong of " + worn, x.wrong(NONE), wrong);
        Check.due("swaps of " + worn, x.swaps(), swaps);
        for (int g = 0; g < 11; g++) {
            Check.due("ring of " + g + " in " + worn, x.wrong(g), g < lengths.length ? lengths[g] : ShoesHall.BAD);
        }
    }

    private static void pairsThatAreAlike() {
        long[] all = {1, 1, 2, 6, 24, 120, 720, 5040, 40320, 362880, 3628800};
        long[] none = {1, 0, 1, 2, 9, 44, 265, 1854, 14833, 133496, 1334961};
        ShoesHall x = new ShoesHall();
        for (int many = 0; many <= 10; many++) {
            Check.due("alike of " + many, x.alike(0), all[many]);
            Check.due("nobody its own, of " + many, x.alike(1), none[many]);
            x.type(0, 97 + many);
        }
        for (int g = 0; g < 10; g++) {
            x.guest(g, 1, g % 4);
        }
        // Looks of 3, 3, 2 and 2 guests.
        Check.due("by looks", x.alike(0), 144);
        Check.due("by looks, nobody its own", x.alike(1), 4);
        x.undo(0);
        Check.due("only those who come", x.alike(0), 48);
        Check.due("one that looks like no other has its own", Check.hall("abc", "").alike(1), 2);
        x.set(0, 1);
        Check.due("laid or not", x.alike(0), 48);
        Check.due("alike 2", x.alike(2), Check.LONG_BAD);
        Check.due("alike -1", x.alike(-1), Check.LONG_BAD);
    }
}
