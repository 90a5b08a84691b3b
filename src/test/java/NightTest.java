/** Promise 29: night. */
public final class NightTest {
    public static void main(String[] args) {
        ShoesHall x = Check.hall("ab", "");
        // Of two in one row one is lifted where a goes first: where the first lot of two is 0.
        int seed = 7;
        long sum = 0;
        for (int n = 1; n <= 60; n++) {
            seed = seed * 1103515245 + 12345;
            sum += (seed >>> 16) % 2 == 0 ? 1 : 0;
            seed = seed * 1103515245 + 12345;
            Check.due("night of " + n, x.night(7, n), sum);
        }
        ShoesHall ten = Check.hall("abcdefghij", "");
        Check.due("night(1, 60)", ten.night(1, 60), 1343);
        Check.due("night(-9, 60)", ten.night(-9, 60), 1374);
        Check.type(ten, 1, "ja");
        Check.due("goings are not asked", ten.night(-9, 60), 1374);
        ten.set(0, 1);
        Check.due("one pair: nothing is lifted", ten.night(1, 60), 0);
        lotsOfThoseWithoutAPair();
        Check.due("nobody", new ShoesHall().night(3, 60), 0);
        Check.due("no night", x.night(1, 0), Check.LONG_BAD);
        Check.due("61 nights", x.night(1, 61), Check.LONG_BAD);
        Check.end("NightTest");
    }

    /** c comes, finds no room, and goes: there are lots of three. */
    private static void lotsOfThoseWithoutAPair() {
        ShoesHall x = Check.hall("abc", "");
        x.set(0, 2);
        int seed = 5;
        long sum = 0;
        for (int n = 1; n <= 60; n++) {
            StringBuilder there = new StringBuilder("abc");
            StringBuilder order = new StringBuilder();
            for (int m = 3; m > 0; m--) {
                seed = seed * 1103515245 + 12345;
                int lot = (seed >>> 16) % m;
                order.append(there.charAt(lot));
                there.deleteCharAt(lot);
            }
            sum += order.indexOf("a") < order.indexOf("b") ? 1 : 0;
            Check.due("night of three, " + n, x.night(5, n), sum);
        }
    }
}
