/** Sentences of promises 24 to 29: ahead, forget, fits, sure, firsts, night. */
final class EdgesOfAhead {
    private static final int BAD = ShoesHall.BAD, FULL = ShoesHall.FULL;
    private static final String ALL = "abcdefghij";

    private EdgesOfAhead() {
    }

    static void all() {
        promise24();
        promise25();
        promise26();
        promise27();
        promise28();
        promise29();
        promise29Lots();
    }

    /** Pairs of letters are told, the first ahead of the second. */
    private static ShoesHall told(String comings, String... pairs) {
        ShoesHall x = Check.hall(comings, "");
        for (int i = 0; i < pairs.length; i++) {
            Check.due("ahead " + pairs[i], x.ahead(pairs[i].charAt(0) - 'a', pairs[i].charAt(1) - 'a'), i + 1);
        }
        return x;
    }

    private static void promise24() {
        Edges.of(24, "AHEAD more: how many.", () -> {
            ShoesHall x = new ShoesHall();
            for (int i = 1; i <= 8; i++) {
                Check.due("ahead", x.ahead(9, i), i);
                Check.due("count", x.count(5), i);
            }
            Check.due("the same twice is one more", told("ab", "ab", "ab").count(5), 2);
            Check.due("and says no more", told("ab", "ab", "ab").fits(0), 1);
        });
        Edges.of(24, "AHEAD, 8 at most: a GUEST went ahead of another one.", () -> {
            ShoesHall x = told(ALL, "ab", "bc", "cd", "de", "ef", "fg", "gh", "hi");
            Check.due("all eight hold", x.fits(0), 10);
            Check.due("a ninth is refused", x.ahead(8, 9), FULL);
            Check.due("and does not hold", x.fits(0), 10);
            x.forget();
            x.ahead(8, 9);
            Check.due("the first ahead of the second", x.sure(0, 8, 9), 1);
            Check.due("not the other way", x.sure(0, 9, 8), 0);
        });
        Edges.of(24, "BAD: also of itself; FULL.", () -> {
            Evening.bad("ahead(?, 5)", 0, 9, (x, v) -> x.ahead(v, 5));
            Evening.bad("ahead(5, ?)", 0, 9, (x, v) -> x.ahead(5, v));
            for (int g = 0; g < 10; g++) {
                int it = g;
                Evening.refuses("ahead of itself", BAD, 0, x -> x.ahead(it, it));
            }
            Evening.refusesBehind(EdgesOfAhead::tellAll, "a ninth", FULL, 0, x -> x.ahead(0, 1));
            Evening.refusesBehind(EdgesOfAhead::tellAll, "one that was told", FULL, 0, x -> x.ahead(1, 2));
            Evening.refusesBehind(EdgesOfAhead::tellAll, "a ninth, of itself", BAD, 0, x -> x.ahead(3, 3));
            Evening.refusesBehind(EdgesOfAhead::tellAll, "a ninth, of nobody", BAD, 0, x -> x.ahead(0, 10));
            Evening.refusesBehind(EdgesOfAhead::tellAll, "a ninth, by nobody", BAD, 0, x -> x.ahead(-1, 0));
        });
    }

    /** As many as can be told. */
    static void tellAll(ShoesHall x) {
        for (int i = x.count(5); i < 8; i++) {
            x.ahead(4, i + 2);
        }
    }

    private static void promise25() {
        Edges.of(25, "All that was told as AHEAD is forgotten: how many.", () -> {
            Check.due("nothing was told", new ShoesHall().forget(), 0);
            ShoesHall x = told(ALL, "ab", "ba", "cd", "de", "ec", "fg", "gh", "hf");
            Check.due("nothing fits", x.fits(0), 0);
            Check.due("eight", x.forget(), 8);
            Check.due("nothing is told any more", x.count(5), 0);
            Check.due("all fits", x.fits(0), 3628800);
            Check.due("also where one who was told is left", x.fits(1), 362880);
            Check.due("each can be first", x.firsts(0), 1023);
            Check.due("nobody is sure to be ahead", x.sure(0, 0, 1), 0);
            Check.due("again none", x.forget(), 0);
            for (int i = 1; i <= 8; i++) Check.due("eight can be told again", x.ahead(0, i), i);
            Check.due("and count", x.forget(), 8);
        });
    }

    private static void promise26() {
        Edges.of(26, "FITS.", () -> {
            Check.due("nobody came: one order, of nobody", new ShoesHall().fits(0), 1);
            Check.due("one", Check.hall("j", "").fits(0), 1);
            Check.due("ten", Check.hall(ALL, "").fits(0), 3628800);
            Check.due("GOINGS mean nothing for it", Check.hall(ALL, "ba").fits(0), 3628800);
        });
        Edges.of(26, "BAD (bits 0 to 1023). (As the least long.)", () ->
            Evening.badLong("fits(?)", 0, 1023, (x, v) -> x.fits(v)));
        Edges.of(26, "LEFT (bits): those of whom pairs are left did not go, all others who came did", () -> {
            ShoesHall x = Check.hall(ALL, "");
            long orders = 3628800;
            for (int g = 0; g < 10; g++) {
                int left = (1 << g + 1) - 1;
                orders /= 10 - g;
                Check.due("the first " + (g + 1) + " are left", x.fits(left), orders);
                Check.due("they cannot have gone first", x.firsts(left), 1023 - left);
            }
            Check.due("only j is left", x.fits(512), 362880);
            Check.due("only a is left", x.fits(1), 362880);
            ShoesHall y = Check.hall("ab", "");
            Check.due("who did not come can leave nothing", y.fits(1020), 2);
            y.set(0, 1);
            Check.due("with a pair or without", y.fits(0), 2);
        });
        Edges.of(26, "FITS: in how many orders (none, where one who did not go is told as AHEAD, or as behind)", () -> {
            ShoesHall x = told("abc", "ab");
            Check.due("half of them", x.fits(0), 3);
            Check.due("c is left", x.fits(4), 1);
            Check.due("a, told as AHEAD, is left", x.fits(1), 0);
            Check.due("b, told as behind, is left", x.fits(2), 0);
            Check.due("all are left", x.fits(7), 0);
            Check.due("d did not come, told as AHEAD", told("abc", "da").fits(0), 0);
            Check.due("d did not come, told as behind", told("abc", "ad").fits(0), 0);
            Check.due("nobody came", told("", "ab").fits(0), 0);
            Check.due("one of two things told is not so", told("abc", "ab", "cd").fits(0), 0);
            Check.due("a ring of two", told("abc", "ab", "ba").fits(0), 0);
            Check.due("a ring of three", told("abc", "ab", "bc", "ca").fits(0), 0);
            Check.due("a row of three", told("abc", "ab", "bc").fits(0), 1);
            Check.due("two behind one", told("abc", "ab", "ac").fits(0), 2);
            Check.due("one behind two", told("abc", "ac", "bc").fits(0), 2);
            Check.due("two and two", told("abcd", "ab", "cd").fits(0), 6);
            Check.due("a is behind", told("abc", "ba").fits(0), 3);
            Check.due("a is behind two in a row", told("abc", "ba", "cb").fits(0), 1);
            Check.due("all ten are told", told(ALL, "ab", "cd", "ef", "gh", "ij").fits(0), 113400);
        });
    }

    private static void promise27() {
        Edges.of(27, "SURE.", () -> {
            ShoesHall x = told("abcd", "ab", "bc");
            Check.due("as told", x.sure(0, 0, 1), 1);
            Check.due("by two that were told", x.sure(0, 0, 2), 1);
            Check.due("nothing was told", x.sure(0, 0, 3), 0);
            Check.due("told later, the other part first", told("abcd", "bc", "ab").sure(0, 0, 2), 1);
            Check.due("the last of all ten", told(ALL, "ab", "bc", "cd", "de", "ef", "fg", "gh", "hj").sure(0, 0, 9), 1);
        });
        Edges.of(27, "SURE: whether in all orders one went ahead of another one: 1; 0 (also where there are none)", () -> {
            ShoesHall x = told("abcd", "ab", "ac");
            Check.due("in all", x.sure(0, 0, 1), 1);
            Check.due("in half of them", x.sure(0, 1, 2), 0);
            Check.due("in none of them", x.sure(0, 1, 0), 0);
            Check.due("a is behind", told("abc", "ba", "cb").sure(0, 2, 0), 1);
            Check.due("there are none: b is left", x.sure(2, 0, 2), 0);
            x.ahead(2, 0);
            Check.due("there are none: a ring", x.sure(0, 0, 1), 0);
            Check.due("there are none: one told did not come", told("ab", "ab", "cd").sure(0, 0, 1), 0);
        });
        Edges.of(27, "BAD: also one who did not come, or is LEFT, or itself.", () -> {
            // With 128 h is LEFT.
            Evening.bad("sure(?, 8, 7)", 0, 127, (x, v) -> x.sure(v, 8, 7));
            Evening.bad("sure(0, ?, 5)", 0, 9, (x, v) -> x.sure(0, v, 5));
            Evening.bad("sure(0, 5, ?)", 0, 9, (x, v) -> x.sure(0, 5, v));
            for (int g = 0; g < 10; g++) {
                int it = g, other = (g + 1) % 10;
                Evening.refuses("itself", BAD, 0, x -> x.sure(0, it, it));
                Evening.refuses("the one ahead is LEFT", BAD, 0, x -> x.sure(1 << it, it, other));
                Evening.refuses("the one behind is LEFT", BAD, 0, x -> x.sure(1 << it, other, it));
            }
            Evening.refuses("more bits than there are", BAD, 0, x -> x.sure(1024, 0, 1));
            Evening.refusesBehind(x -> x.undo(0), "i did not come", BAD, 0, x -> x.sure(0, 8, 0));
            Evening.refusesBehind(x -> x.undo(0), "i did not come, behind", BAD, 0, x -> x.sure(0, 0, 8));
            Evening.refusesBehind(x -> x.wipe(0), "nobody came", BAD, 0, x -> x.sure(0, 0, 1));
            Check.due("both are LEFT", Evening.full(0).sure(1023, 0, 1), BAD);
        });
    }

    private static void promise28() {
        Edges.of(28, "FIRST, as bits.", () -> {
            Check.due("nobody came", new ShoesHall().firsts(0), 0);
            Check.due("a is bit 0", Check.hall("a", "").firsts(0), 1);
            Check.due("j is bit 9", Check.hall("j", "").firsts(0), 512);
            Check.due("all ten", Check.hall(ALL, "").firsts(0), 1023);
        });
        Edges.of(28, "BAD.", () -> Evening.bad("firsts(?)", 0, 1023, (x, v) -> x.firsts(v)));
        Edges.of(28, "FIRST: who can have gone first, as bits.", () -> {
            ShoesHall x = told("abcd", "ab", "cd");
            Check.due("those behind nobody", x.firsts(0), 5);
            Check.due("one of them only, by what is told more", told("abcd", "ab", "bc").firsts(0), 9);
            Check.due("not a, who is behind", told("abcd", "ba").firsts(0), 14);
            Check.due("all are left", Check.hall(ALL, "").firsts(1023), 0);
            Check.due("all but j are left", Check.hall(ALL, "").firsts(511), 512);
            Check.due("no order fits: a is left", x.firsts(1), 0);
            Check.due("no order fits: a ring", told("abcd", "ab", "ba").firsts(0), 0);
            Check.due("no order fits: e did not come", told("abcd", "ae").firsts(0), 0);
        });
    }

    /** Nights acted out: in longs, and by texts, so that nothing wraps by itself. */
    private static long nights(String letters, String laid, int seed, int n) {
        long s = seed & 0xffffffffL;
        long sum = 0;
        for (int night = 0; night < n; night++) {
            StringBuilder there = new StringBuilder(letters);
            StringBuilder row = new StringBuilder(laid);
            while (there.length() > 0) {
                s = (s * 1103515245L + 12345L) & 0xffffffffL;
                int lot = (int) ((s >> 16) % there.length());
                int at = row.indexOf(there.substring(lot, lot + 1));
                there.deleteCharAt(lot);
                if (at >= 0) {
                    sum += row.length() - 1 - at;
                    row.deleteCharAt(at);
                }
            }
        }
        return sum;
    }

    private static void promise29() {
        Edges.of(29, "NIGHT: of n nights, together.", () -> {
            ShoesHall x = Check.hall("bac", "");
            for (int n = 1; n <= 60; n++) Check.due("of " + n, x.night(9, n), nights("abc", "bac", 9, n));
        });
        Edges.of(29, "BAD. (As the least long.)", () -> {
            Evening.badLong("night(7, ?)", 1, 60, (x, v) -> x.night(7, v));
            Check.due("no night of nobody", new ShoesHall().night(7, 0), Check.LONG_BAD);
            Check.due("61 nights of nobody", new ShoesHall().night(7, 61), Check.LONG_BAD);
        });
        Edges.of(29, "NIGHT by a SEED: all who come go: each by a LOT of as many as are there still (by letters): "
                + "what is LIFTED in ROWS as they are, together", () -> {
            Check.due("nobody", new ShoesHall().night(7, 60), 0);
            Check.due("one", Check.hall("j", "").night(7, 60), 0);
            Check.due("by letters, not by COMINGS", Check.hall("jihgfedcba", "").night(7, 3), nights(ALL, "jihgfedcba", 7, 3));
            ShoesHall x = Check.hall("abc", "c");
            Check.due("whoever is told to go or to stay", x.night(4, 8), nights("abc", "abc", 4, 8));
            x.guest(0, 0, 9);
            Check.due("a in a ROW of its own", x.night(4, 8), nights("abc", "bc", 4, 8));
            x.guest(0, 0, 0);
            x.set(0, 2);
            Check.due("c, who found no room, goes too", x.night(4, 60), nights("abc", "ab", 4, 60));
            x.set(0, 1);
            Check.due("each lies alone", x.night(4, 60), 0);
        });
        Edges.of(29, "of n (1 to 60) nights one behind the other (the SEED going on).", () -> {
            ShoesHall x = Check.hall("dcba", "");
            int seed = 77;
            long sum = 0;
            for (int n = 1; n <= 60; n++) {
                sum += x.night(seed, 1);
                for (int lot = 0; lot < 4; lot++) seed = seed * 1103515245 + 12345;
                Check.due("of " + n, x.night(77, n), sum);
            }
            Check.due("each time anew from the SEED", x.night(77, 60), sum);
        });
    }

    /** The SEED from which a lot is drawn by just this number. */
    private static int ahead(int number) {
        int inverse = 1;
        for (int i = 0; i < 5; i++) inverse *= 2 - 1103515245 * inverse;
        return (number - 12345) * inverse;
    }

    private static void promise29Lots() {
        Edges.of(29, "LOTS of m: SEED becomes 1103515245 SEED and 12345, as ints that wrap; "
                + "its upper 16 bits as a number from 0 on, modulo m.", () -> {
            int[] drawn = {0, 0xffff, 0x10000, 0x1ffff, 0x20000, 0x7fff0000, 0x7fffffff, 0x80000000, 0x8000ffff, 0xfffe0000,
                0xffff0000, 0xffffffff};
            String[] rows = {"ab", "abc", "abcdefg", ALL};
            for (int number : drawn) {
                int seed = ahead(number);
                Check.due("the seed ahead", seed * 1103515245 + 12345, number);
                for (String row : rows) {
                    ShoesHall x = Check.hall(row, "");
                    Check.due("night(" + seed + ", 1) of " + row, x.night(seed, 1), nights(row, row, seed, 1));
                    Check.due("night(" + seed + ", 60) of " + row, x.night(seed, 60), nights(row, row, seed, 60));
                }
            }
            ShoesHall two = Check.hall("ab", "");
            // Of two, a goes first by an even number: b is lifted.
            Check.due("65535", two.night(ahead(0xffff0000), 1), 0);
            Check.due("65534", two.night(ahead(0xfffe0000), 1), 1);
            Check.due("0, by all lower bits", two.night(ahead(0xffff), 1), 1);
            for (int seed : new int[] {0, 1, -1, Evening.LEAST_INT, Evening.MOST_INT}) {
                ShoesHall x = Check.hall(ALL, "");
                Check.due("night of seed " + seed, x.night(seed, 60), nights(ALL, ALL, seed, 60));
            }
        });
    }
}
