/** Promises 14 to 17: least, rule, best, gap. */
public final class LayingTest {
    private static final int NONE = ShoesHall.NONE;

    public static void main(String[] args) {
        leastLifted();
        rules();
        theBest();
        theGap();
        Check.end("LayingTest");
    }

    private static void leastOf(ShoesHall x, int k, int much, String rows) {
        Check.due("least " + k, x.least(k, NONE), much);
        for (int i = 0; i < 7; i++) {
            Check.due("least " + k + " at " + i, x.least(k, i), i < rows.length() ? rows.charAt(i) - '0' : NONE);
        }
    }

    private static void leastLifted() {
        ShoesHall x = Check.hall("abcdefghij", "abcdefghij");
        leastOf(x, 1, 21, "0000000");
        leastOf(x, 2, 9, "0000111");
        leastOf(x, 3, 5, "0001122");
        x.set(0, 1);
        leastOf(x, 3, 5, "0001122");
        leastOf(Check.hall("cafdbe", "abcd"), 2, 2, "001101");
        leastOf(Check.hall("ba", "ab"), 3, 0, "00");
        leastOf(Check.hall("ab", "ab"), 3, 0, "01");
        leastOf(Check.hall("ab", "ba"), 3, 0, "00");
        leastOf(Check.hall("ba", ""), 1, 0, "00");
        leastOf(new ShoesHall(), 2, 0, "");
        Check.due("least 0", x.least(0, 0), ShoesHall.BAD);
        Check.due("least 4", x.least(4, 0), ShoesHall.BAD);
        Check.due("least of the 7th", x.least(1, 7), ShoesHall.BAD);
        Check.due("least of -2", x.least(1, -2), ShoesHall.BAD);
    }

    private static void rules() {
        ShoesHall x = Check.hall("bcade", "cebda");
        // They go as 2 0 4 3 1, by comings.
        Check.due("rule 0", x.rule(0, 2), 5);
        Check.due("rule 1 in 2", x.rule(1, 2), 2);
        Check.due("rule 2 in 2", x.rule(2, 2), 2);
        Check.due("rule 3 in 1", x.rule(3, 1), 5);
        Check.due("rule 3 in 2", x.rule(3, 2), 0);
        Check.due("rule 1 in 3", x.rule(1, 3), 2);
        Check.due("rule 2 in 3", x.rule(2, 3), 2);
        Check.due("rule 3 in 3", x.rule(3, 3), 0);
        Check.due("rule 0 in 9", x.rule(0, 9), 5);
        Check.due("rule 1 in 9", x.rule(1, 9), 0);
        x.set(0, 1);
        Check.due("rows are as deep as one likes", x.rule(0, 2), 5);
        ShoesHall y = Check.hall("abc", "abc");
        Check.due("else to that whose front goes latest", y.rule(3, 2), 1);
        Check.due("rule 4", x.rule(4, 1), ShoesHall.BAD);
        Check.due("rule -1", x.rule(-1, 1), ShoesHall.BAD);
        Check.due("rule in 0", x.rule(0, 0), ShoesHall.BAD);
        Check.due("rule in 10", x.rule(0, 10), ShoesHall.BAD);
    }

    private static void theBest() {
        ShoesHall x = Check.hall("bcade", "cebda");
        Check.due("best in 1: of like ones the least", x.best(1), 0);
        Check.due("best in 2", x.best(2), 3);
        Check.due("best in 9: of like ones the least", x.best(9), 1);
        Check.due("best of going as they came", Check.hall("abcdefghij", "abcdefghij").best(4), 1);
        Check.due("best of nobody", new ShoesHall().best(9), 0);
        Check.due("best 0", x.best(0), ShoesHall.BAD);
        Check.due("best 10", x.best(10), ShoesHall.BAD);
    }

    private static void theGap() {
        ShoesHall x = Check.hall("hdjbfacgei", "bchgjafd");
        Check.due("by the best rule of the first seven, not of all", x.gap(2), 1);
        Check.due("gap 3", x.gap(3), 0);
        Check.due("gap 1", x.gap(1), 0);
        Check.due("gap of nobody", new ShoesHall().gap(1), 0);
        Check.due("gap 0", x.gap(0), ShoesHall.BAD);
        Check.due("gap 4", x.gap(4), ShoesHall.BAD);
    }
}
