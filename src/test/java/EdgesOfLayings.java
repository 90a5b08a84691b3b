/** Sentences of promises 14 to 19: least, rule, best, gap, mean, heap. */
final class EdgesOfLayings {
    private static final int NONE = ShoesHall.NONE, BAD = ShoesHall.BAD;
    private static final String ALL = "abcdefghij", BACK = "jihgfedcba";

    private EdgesOfLayings() {
    }

    static void all() {
        promise14();
        promise15();
        promise15Soonest();
        promise16();
        promise17();
        promise18();
        promise19();
    }

    private static void least(ShoesHall x, int k, int much, String rows) {
        Check.due("least in " + k, x.least(k, NONE), much);
        for (int i = 0; i < 7; i++) {
            int want = i < rows.length() ? rows.charAt(i) - '0' : NONE;
            Check.due("least in " + k + ", ROW of the " + i + "-th", x.least(k, i), want);
        }
    }

    private static void promise14() {
        Edges.of(14, "LEAST: how much (i = NONE), the ROW of the i-th that comes (0 to 6; NONE).", () -> {
            least(new ShoesHall(), 1, 0, "");
            least(new ShoesHall(), 3, 0, "");
            least(Check.hall("j", ""), 3, 0, "0");
            least(Check.hall("abcdef", "abcdef"), 3, 3, "001122");
            least(Check.hall("abcdefg", "abcdefg"), 3, 5, "0001122");
        });
        Edges.of(14, "LEAST in k (1 to 3) ROWS, of the first seven GUESTS that come at most (others aside)", () -> {
            ShoesHall x = Check.hall("abcdefg", "abcdefg");
            int[] much = {21, 9, 5};
            String[] rows = {"0000000", "0000111", "0001122"};
            for (int k = 1; k <= 3; k++) least(x, k, much[k - 1], rows[k - 1]);
            // h would be lifted for seven, or have i and j lifted for it.
            for (char more : "hij".toCharArray()) {
                x.type(0, more);
                for (int k = 1; k <= 3; k++) least(x, k, much[k - 1], rows[k - 1]);
            }
            Check.type(x, 1, BACK);
            least(x, 1, 0, "0000000");
            Check.type(x, 1, "jihabcdefg");
            least(x, 2, 9, "0000111");
        });
        Edges.of(14, "the least that is LIFTED together, of like ones the least row of ROWS by COMINGS: how much; "
                + "the ROW of the i-th that comes; NONE.", () -> {
            // Two of the three must be in one ROW: 0 0 1, 0 1 0, 0 1 1 are like ones.
            least(Check.hall("cab", "cab"), 2, 1, "001");
            least(Check.hall("cab", "cab"), 1, 3, "000");
            least(Check.hall("cab", "cab"), 3, 0, "012");
            least(Check.hall("ba", "ab"), 3, 0, "00");
            least(Check.hall("ab", "ab"), 3, 0, "01");
            // Only b can be in front of c.
            least(Check.hall("acb", "abc"), 2, 0, "011");
            // The second ROW is tried ahead of the third.
            least(Check.hall("adcb", "abcd"), 3, 0, "0111");
            ShoesHall x = Check.hall("abc", "abc");
            for (int i = 0; i < 3; i++) {
                Check.due("a rule, by which c is in front of a", x.rule(1, 2), 1);
                Check.due("behind it, the ROW of the " + i + "-th", x.least(2, i), i / 2);
            }
        });
        Edges.of(14, "BAD.", () -> {
            Evening.bad("least(?, -1)", 1, 3, (x, v) -> x.least(v, NONE));
            Evening.bad("least(2, ?), where ten come", NONE, 6, (x, v) -> x.least(2, v));
            Evening.refuses("both not as told", BAD, 0, x -> x.least(4, 7));
        });
    }

    private static void promise15() {
        Edges.of(15, "What is LIFTED by a RULE (0 to 3).", () -> {
            ShoesHall x = Check.hall("abcd", "abcd");
            int[] lifted = {6, 2, 2, 3};
            for (int rule = 0; rule < 4; rule++) {
                Check.due("by rule " + rule, x.rule(rule, 2), lifted[rule]);
                Check.due("of nobody", new ShoesHall().rule(rule, 9), 0);
                Check.due("in one ROW", x.rule(rule, 1), 6);
            }
        });
        Edges.of(15, "BAD.", () -> {
            Evening.bad("rule(?, 1)", 0, 3, (x, v) -> x.rule(v, 1));
            for (int rule = 0; rule < 4; rule++) {
                int r = rule;
                Evening.bad("rule(" + r + ", ?)", 1, 9, (x, v) -> x.rule(r, v));
            }
        });
        Edges.of(15, "RULES in k (1 to 9) ROWS, of all that come", () -> {
            ShoesHall x = Check.hall(ALL, ALL);
            // All ten, not the first seven; those without room and those who stay among them.
            int[] round = {45, 20, 12, 8, 5, 4, 3, 2, 1};
            for (int k = 1; k <= 9; k++) Check.due("rule 1 in " + k, x.rule(1, k), round[k - 1]);
            x.wipe(1);
            x.set(0, 1);
            for (int k = 1; k <= 9; k++) Check.due("rule 1 in " + k + ", by letters", x.rule(1, k), round[k - 1]);
        });
        Edges.of(15, "0 all to ROW 0", () -> {
            ShoesHall x = Check.hall(ALL, ALL);
            for (int k = 1; k <= 9; k++) Check.due("rule 0 in " + k, x.rule(0, k), 45);
        });
        Edges.of(15, "1 one ROW after the other, round", () -> {
            ShoesHall x = Check.hall("acbd", "abcd");
            // a b, c d; then a d, c, b.
            Check.due("in two", x.rule(1, 2), 2);
            Check.due("in three: the fourth comes to the first ROW again", x.rule(1, 3), 1);
            Check.due("in four", x.rule(1, 4), 0);
            Check.due("the tenth of nine comes to the first ROW again", Check.hall("abcdefghij", "abcdefghij").rule(1, 9), 1);
            Check.due("the tenth goes first", Check.hall("abcdefghij", "jabcdefghi").rule(1, 9), 0);
        });
        Edges.of(15, "2 to that with fewest pairs", () -> {
            ShoesHall x = Check.hall("acbd", "abcd");
            int[] lifted = {5, 2, 1, 0, 0};
            for (int k = 1; k <= 5; k++) Check.due("in " + k, x.rule(2, k), lifted[k - 1]);
            // However full the hall is, only the pairs laid by the rule count.
            Check.layTo(x, "1111");
            Check.due("laid elsewhere", x.rule(2, 2), 2);
        });
        Edges.of(15, "of like ones the least ROW: what is LIFTED", () -> {
            // Of like ones any ROW lifts as much; the least is seen where one ROW alone is not empty.
            for (int k = 1; k <= 9; k++) {
                Check.due("rules 1 and 2 are like ones", Evening.full(0).rule(1, k), Evening.full(0).rule(2, k));
            }
            Check.due("the least of the empty ones", Check.hall("j", "").rows(9), 0);
        });
    }

    private static void promise15Soonest() {
        Edges.of(15, "3 to that whose front goes soonest of those that go behind it (an empty one goes behind all)", () -> {
            // a comes in front of b, not to an empty one, which c needs.
            Check.due("a front ahead of an empty one", Check.hall("bac", "abc").rule(3, 2), 0);
            // b comes in front of c, not to an empty one, which d needs.
            Check.due("an empty one", Check.hall("acbd", "abcd").rule(3, 3), 0);
            // a comes in front of c, not of e, which d needs.
            Check.due("the soonest of two", Check.hall("cead", "acde").rule(3, 2), 0);
            Check.due("in one ROW", Check.hall("bac", "abc").rule(3, 1), 2);
        });
        Edges.of(15, "else to that whose front goes latest", () -> {
            // c and d both come in front of b.
            Check.due("the latest of two", Check.hall("abcd", "abcd").rule(3, 2), 3);
            Check.due("the latest is in the first ROW", Check.hall("bacd", "abcd").rule(3, 2), 1);
            Check.due("the latest of three", Check.hall("abdce", "abcde").rule(3, 3), 2);
            Check.due("the only one", Check.hall("abcd", "abcd").rule(3, 1), 6);
        });
    }

    private static void promise16() {
        Edges.of(16, "BEST.", () -> {
            Check.due("rule 3", Check.hall("bac", "abc").best(2), 3);
            Check.due("rule 1", Check.hall("abcd", "abcd").best(2), 1);
            Check.due("rule 0", Check.hall("dcba", "abcd").best(2), 0);
        });
        Edges.of(16, "BAD.", () -> Evening.bad("best(?)", 1, 9, (x, v) -> x.best(v)));
        Edges.of(16, "BEST of these RULES, of like ones the least.", () -> {
            for (int k = 1; k <= 9; k++) {
                Check.due("nobody", new ShoesHall().best(k), 0);
                Check.due("nothing is ever lifted", Check.hall(BACK, ALL).best(k), 0);
            }
            Check.due("in one ROW all are like ones", Check.hall(ALL, ALL).best(1), 0);
            Check.due("1 and 2 are like ones", Check.hall(ALL, ALL).best(2), 1);
            Check.due("1, 2 and 3 are like ones", Check.hall("ab", "ab").best(2), 1);
            Check.due("0 and 3 are like ones", Check.hall("cba", "abc").best(2), 0);
            Check.due("of all that come, not of the first seven", Evening.full(0).best(2), 1);
        });
    }

    private static void promise17() {
        Edges.of(17, "How much more the BEST RULE lifts than LEAST, of the first seven that come at most.", () -> {
            Check.due("nobody", new ShoesHall().gap(1), 0);
            for (int k = 1; k <= 3; k++) Check.due("as they came, in " + k, Check.hall(ALL, ALL).gap(k), 0);
            Check.due("in one ROW none is better", Evening.full(0).gap(1), 0);
            // Rule 3 lifts 2 of the first seven, LEAST 1; of all ten rule 1 were the best.
            Check.due("by the first seven", Evening.full(0).gap(2), 1);
            ShoesHall x = Check.hall("hdjbfac", "bchjafd");
            Check.due("just these seven", x.gap(2), 1);
            Check.due("more than none", x.least(2, NONE), 1);
        });
        Edges.of(17, "BAD (k 1 to 3).", () -> Evening.bad("gap(?)", 1, 3, (x, v) -> x.gap(v)));
    }

    private static void fraction(String call, long above, long below, long wantAbove, long wantBelow) {
        Check.due(call + " above", above, wantAbove);
        Check.due(call + " below", below, wantBelow);
    }

    private static void mean(ShoesHall x, int p, long above, long below) {
        fraction("mean(" + p + ")", x.mean(p, 0), x.mean(p, 1), above, below);
    }

    private static void promise18() {
        Edges.of(18, "ODDS: above, below.", () -> {
            mean(Check.hall("abcd", "abcd"), 16, 6, 1);
            mean(Check.hall("abcd", "abcd"), 5, 15, 8);
        });
        Edges.of(18, "ODDS: GOINGS are as told by p sixteenths (0 to 16), else from the last one back: the mean of what is "
                + "LIFTED in ROWS as they are: a FRACTION.", () -> {
            ShoesHall x = Check.hall("abc", "ab");
            // As told 2 and 1, back 1 and 1: c stays in front.
            for (int p = 0; p <= 16; p++) {
                Check.due("mean, in sixteenths", 16 * x.mean(p, 0) / x.mean(p, 1), 32 + p);
            }
            mean(x, 0, 2, 1);
            mean(x, 16, 3, 1);
            x.guest(2, 0, 1);
            mean(x, 16, 1, 1);
            mean(x, 0, 0, 1);
            x.guest(2, 0, 0);
            x.set(0, 1);
            mean(x, 9, 0, 1);
            Check.type(x, 1, "cba");
            mean(x, 9, 0, 1);
            x.set(0, 2);
            // c has no pair: a goes last as told, and first of the two from the last one back.
            mean(x, 0, 1, 1);
            mean(x, 16, 0, 1);
        });
        Edges.of(18, "FRACTIONS are told in lowest terms, above and below (0 by 1).", () -> {
            ShoesHall x = Check.hall("ab", "ab");
            int[] below = {1, 16, 8, 16, 4, 16, 8, 16, 2, 16, 8, 16, 4, 16, 8, 16, 1};
            for (int p = 0; p <= 16; p++) mean(x, p, p * below[p] / 16, below[p]);
            for (int p = 0; p <= 16; p++) mean(new ShoesHall(), p, 0, 1);
            fraction("heap", new ShoesHall().heap(NONE, 0), new ShoesHall().heap(NONE, 1), 0, 1);
        });
        Edges.of(18, "BAD. (As the least long.)", () -> {
            Evening.badLong("mean(?, 0)", 0, 16, (x, v) -> x.mean(v, 0));
            Evening.badLong("mean(0, ?)", 0, 1, (x, v) -> x.mean(0, v));
            Evening.refuses("both not as told", Check.LONG_BAD, 0, x -> x.mean(17, 2));
        });
    }

    private static void heap(ShoesHall x, int i, long above, long below) {
        fraction("heap(" + i + ")", x.heap(i, 0), x.heap(i, 1), above, below);
    }

    private static void promise19() {
        Edges.of(19, "HEAP: of the i-th who goes; of all (i = NONE): above, below.", () -> {
            ShoesHall x = Check.hall("ab", "ba");
            heap(x, 0, 10, 3);
            heap(x, 1, 2, 1);
            heap(x, NONE, 16, 3);
        });
        Edges.of(19, "HEAP: all pairs that were laid lie in one heap", () -> {
            ShoesHall x = Check.hall("abc", "cab");
            Check.layTo(x, "129");
            heap(x, 0, 14, 3);
            Check.layTo(x, "000");
            x.set(0, 2);
            // c's pair was not laid: neither do its shoes lie there, nor does it take any.
            heap(x, 0, 10, 3);
            heap(x, 1, 2, 1);
            heap(x, NONE, 16, 3);
            Check.due("there is no third one", x.heap(2, 0), Check.LONG_BAD);
            Check.type(x, 1, "a");
            // b stays, and its pair too.
            heap(x, NONE, 10, 3);
        });
        Edges.of(19, "each who goes takes shoe by shoe, each alike, till it has both its own, and throws the others back: "
                + "the mean of how many shoes are taken, by the i-th who goes (0 on), by all together: FRACTIONS "
                + "(of m shoes that lie there it is 2 (m + 1) by 3).", () -> {
            ShoesHall x = Check.hall(ALL, BACK);
            for (int i = 0; i < 10; i++) {
                int above = 2 * (2 * (10 - i) + 1);
                boolean whole = above % 3 == 0;
                heap(x, i, whole ? above / 3 : above, whole ? 1 : 3);
            }
            heap(x, NONE, 80, 1);
            heap(Check.hall("j", "j"), 0, 2, 1);
        });
        Edges.of(19, "BAD: no such one. (As the least long.)", () -> {
            // Eight go, one of them without a pair.
            Evening.badLong("heap(?, 0)", NONE, 6, (x, v) -> x.heap(v, 0));
            Evening.badLong("heap(?, 1)", NONE, 6, (x, v) -> x.heap(v, 1));
            Evening.badLong("heap(0, ?)", 0, 1, (x, v) -> x.heap(0, v));
            Evening.badLong("heap(-1, ?)", 0, 1, (x, v) -> x.heap(NONE, v));
            Check.due("nobody goes", Check.hall("ab", "").heap(0, 0), Check.LONG_BAD);
            Check.due("a tenth of ten", Check.hall(ALL, ALL).heap(10, 1), Check.LONG_BAD);
        });
    }
}
