/** Promise 20: out. */
public final class CrowdTest {
    private static final int NONE = ShoesHall.NONE;

    public static void main(String[] args) {
        oneByOne();
        withRoom();
        inTheOrderTold();
        notLaid();
        refusals();
        Check.end("CrowdTest");
    }

    private static void outs(ShoesHall x, int... wants) {
        for (int g = 0; g < wants.length; g++) {
            Check.due("out " + g, x.out(g), wants[g]);
        }
    }

    private static void oneByOne() {
        ShoesHall x = Check.hall("abcd", "bac");
        outs(x, 8, 4, 11, ShoesHall.NOT);
        Check.due("all", x.out(NONE), 11);
        x.set(3, 0);
        outs(x, 4, 2, 6);
        x.guest(0, 2, 30);
        outs(x, 32, 2, 34);
        Check.due("all from minute 30 on", x.out(NONE), 34);
    }

    private static void withRoom() {
        ShoesHall x = Check.hall("abcd", "abcd");
        x.set(1, 2);
        x.set(2, 1);
        x.set(3, 2);
        // They need 7, 5, 3, 1 minutes.
        outs(x, 7, 5, 8, 8);
        Check.due("all", x.out(NONE), 8);
        x.set(1, 9);
        outs(x, 7, 5, 3, 1);
        Check.due("the first is the last out", x.out(NONE), 7);
        ShoesHall ten = Check.hall("jihgfedcba", "abcdefghij");
        outs(ten, 2, 4, 6, 8, 10, 12, 14, 16, 18, 20);
        Check.due("all ten", ten.out(NONE), 20);
        ten.set(1, 9);
        outs(ten, 2, 2, 2, 2, 2, 2, 2, 2, 2, 4);
    }

    private static void inTheOrderTold() {
        ShoesHall x = Check.hall("cba", "abc");
        x.set(1, 3);
        x.guest(1, 2, 10);
        // c waits for b, though there is room.
        outs(x, 2, 12, 12);
    }

    private static void notLaid() {
        ShoesHall x = Check.hall("abc", "bac");
        x.set(0, 1);
        x.guest(1, 2, 50);
        outs(x, 2, ShoesHall.NOT, ShoesHall.NOT);
        Check.due("those without a pair need no minute", x.out(NONE), 2);
    }

    private static void refusals() {
        ShoesHall x = Check.hall("ab", "");
        Check.due("nobody goes", x.out(NONE), 0);
        Check.due("a stays", x.out(0), ShoesHall.NOT);
        Check.due("out 10", x.out(10), ShoesHall.BAD);
        Check.due("out -2", x.out(-2), ShoesHall.BAD);
    }
}
