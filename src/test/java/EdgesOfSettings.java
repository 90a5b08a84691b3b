/** Sentences of promises 6 to 8: guest, set, read. */
final class EdgesOfSettings {
    private static final int NONE = ShoesHall.NONE;
    private static final String ALL = "abcdefghij";

    private EdgesOfSettings() {
    }

    static void all() {
        promise6();
        promise7();
        promise7Depth();
        promise7Crowd();
        promise8();
    }

    /** Each guest has its own; the least and the most are told back as what it was. */
    private static void trait(int what, int most) {
        ShoesHall x = new ShoesHall();
        for (int g = 0; g < 10; g++) Check.due("at first", x.guest(g, what, most), 0);
        for (int g = 0; g < 10; g++) Check.due("the most", x.guest(g, what, g % (most + 1)), most);
        for (int g = 0; g < 10; g++) Check.due("each its own", x.guest(g, what, 0), g % (most + 1));
        for (int other = 0; other < 3; other++) {
            for (int g = 0; g < 10; g++) Check.due("the others at first", x.guest(g, other, 0), 0);
        }
        Evening.bad("guest(9, " + what + ", ?)", 0, most, (y, v) -> y.guest(9, what, v));
        Evening.bad("guest(?, " + what + ", 0)", 0, 9, (y, v) -> y.guest(v, what, 0));
    }

    private static void promise6() {
        Edges.of(6, "ROW (what = 0), LOOKS (1), MINUTE (2) of a GUEST: what it was.", () -> {
            ShoesHall x = new ShoesHall();
            for (int v = 1; v <= 3; v++) {
                for (int what = 0; what < 3; what++) Check.due("what it was", x.guest(4, what, v), v - 1);
            }
        });
        Edges.of(6, "BAD.", () -> {
            Evening.bad("guest(0, ?, 0)", 0, 2, (x, v) -> x.guest(0, v, 0));
            Evening.bad("guest(?, 0, 0)", 0, 9, (x, v) -> x.guest(v, 0, 0));
            Evening.refuses("all three not as told", ShoesHall.BAD, 0, x -> x.guest(10, 3, 100));
        });
        Edges.of(6, "A GUEST has a ROW (0 to 9; 0 at first) to which its pair is laid", () -> {
            trait(0, 9);
            ShoesHall x = Check.hall(ALL, "");
            for (int i = 0; i < 10; i++) Check.due("all in ROW 0 at first", x.lies(0, 0, i), i);
            for (int g = 0; g < 10; g++) x.guest(g, 0, 9 - g);
            for (int row = 0; row < 10; row++) {
                Check.due("one in each", x.lies(0, row, 0), 9 - row);
                Check.due("and no more", x.lies(0, row, 1), NONE);
            }
            Check.due("ten ROWS", x.count(4), 10);
        });
        Edges.of(6, "LOOKS (0 to 3; 0 at first)", () -> {
            trait(1, 3);
            ShoesHall x = Check.hall("ab", "");
            Check.due("alike at first", x.alike(0), 2);
            for (int looks = 1; looks <= 3; looks++) {
                x.guest(1, 1, looks);
                Check.due("not alike", x.alike(0), 1);
                x.guest(0, 1, looks);
                Check.due("alike again", x.alike(0), 2);
            }
        });
        Edges.of(6, "and a MINUTE from which on it would go (0 to 99; 0 at first).", () -> {
            trait(2, 99);
            ShoesHall x = Check.hall("a", "a");
            Check.due("from minute 0 on", x.out(0), 2);
            x.guest(0, 2, 1);
            Check.due("from minute 1 on", x.out(0), 3);
            x.guest(0, 2, 99);
            Check.due("from minute 99 on", x.out(0), 101);
        });
    }

    private static void setting(int what, int first, int least, int most) {
        ShoesHall x = new ShoesHall();
        Check.due("at first", x.set(what, most), first);
        Check.due("the most", x.set(what, least), most);
        Check.due("the least", x.set(what, first), least);
        int[] firsts = {10, 1, 2, 1};
        for (int other = 0; other < 4; other++) {
            Check.due("each its own", x.set(other, firsts[other]), firsts[other]);
        }
        Evening.bad("set(" + what + ", ?)", least, most, (y, v) -> y.set(what, v));
    }

    private static void promise7() {
        Edges.of(7, "DEEP (what = 0), ROOM (1), LOOK (2), LIFT (3): what it was.", () -> {
            ShoesHall x = new ShoesHall();
            int[] firsts = {10, 1, 2, 1};
            for (int what = 0; what < 4; what++) Check.due("at first", x.set(what, 3 + what), firsts[what]);
            for (int what = 0; what < 4; what++) Check.due("what it was", x.set(what, 9), 3 + what);
        });
        Edges.of(7, "BAD.", () -> {
            Evening.bad("set(?, 1)", 0, 3, (x, v) -> x.set(v, 1));
            Evening.refuses("both not as told", ShoesHall.BAD, 0, x -> x.set(4, 61));
        });
    }

    private static void promise7Depth() {
        Edges.of(7, "A ROW is DEEP (1 to 10 pairs; 10 at first).", () -> {
            setting(0, 10, 1, 10);
            ShoesHall x = Check.hall(ALL, "");
            Check.due("ten find room at first", x.count(3), 10);
            Check.due("nobody is judged", x.judged(), NONE);
            for (int deep = 9; deep >= 1; deep--) {
                x.set(0, deep);
                Check.due("room for " + deep, x.count(3), deep);
                Check.due("the first without room", x.judged(), deep);
                Check.due("the front", x.lies(0, 0, deep - 1), deep - 1);
                Check.due("in front of it", x.lies(0, 0, deep), NONE);
            }
            x.guest(9, 0, 1);
            Check.due("each ROW has room for one", x.lies(0, 1, 0), 9);
            Check.due("two are laid", x.count(3), 2);
            Check.due("two ROWS", x.count(4), 2);
        });
    }

    private static void promise7Crowd() {
        Edges.of(7, "CROWD: ROOM for so many (1 to 9; 1 at first)", () -> {
            setting(1, 1, 1, 9);
            ShoesHall x = Check.hall("jihgfedcba", ALL);
            Check.due("one by one at first", x.out(NONE), 20);
            int[] lastOut = {20, 10, 8, 6, 4, 4, 4, 4, 4};
            for (int room = 1; room <= 9; room++) {
                x.set(1, room);
                Check.due("the last out, with room for " + room, x.out(NONE), lastOut[room - 1]);
                Check.due("the last one in the first lot", x.out(room - 1), 2);
                Check.due("the first one who must wait", x.out(room), 4);
            }
        });
        Edges.of(7, "LOOK (1 to 60 minutes; 2 at first) for each", () -> {
            setting(2, 2, 1, 60);
            ShoesHall x = Check.hall("ba", "ab");
            Check.due("at first", x.out(NONE), 4);
            x.set(2, 1);
            Check.due("the least", x.out(NONE), 2);
            x.set(2, 60);
            Check.due("the most", x.out(NONE), 120);
            Check.due("for each", x.out(0), 60);
        });
        Edges.of(7, "LIFT (0 to 9; 1 at first) for each pair that is LIFTED for it", () -> {
            setting(3, 1, 0, 9);
            ShoesHall x = Check.hall("abc", "a");
            Check.due("two pairs at first", x.out(0), 4);
            x.set(3, 0);
            Check.due("lifting takes no minute", x.out(0), 2);
            x.set(3, 9);
            Check.due("two pairs, nine minutes each", x.out(0), 20);
        });
    }

    private static void promise8() {
        Edges.of(8, "ROWS of GUESTS 0 on by a SHEET, item by item", () -> {
            for (int form = 0; form < 3; form++) {
                ShoesHall x = Check.hall(ALL, "");
                Evening.sheet(x, 3, form, 9, 0, 8);
                Check.due("how many", x.read(3), 3);
                Check.due("a is laid by it", x.lies(0, 9, 0), 0);
                Check.due("c is laid by it", x.lies(0, 8, 0), 2);
                int[] rows = {9, 0, 8, 0};
                for (int g = 0; g < 4; g++) Check.due("ROW of " + g, x.guest(g, 0, 0), rows[g]);
                Check.due("the sheet is as it was", x.get(3, form, 0), 9);
            }
        });
        Edges.of(8, "as long as each may be", () -> {
            int[][] stops = {{10, -1, 127, -128, 266, 512}, {10, -1, 32767, -32768}, {10, -1, 256, 65536, Evening.LEAST_INT}};
            for (int form = 0; form < 3; form++) {
                for (int stop : stops[form]) {
                    ShoesHall x = new ShoesHall();
                    for (int g = 0; g < 10; g++) x.guest(g, 0, 5);
                    Evening.sheet(x, 0, form, 9, 0, stop, 1, 1, 1);
                    boolean fits = form == 0 && stop == 512;
                    Check.due("read up to " + stop, x.read(0), fits ? 6 : 2);
                    int[] rows = {9, 0, fits ? 0 : 5, fits ? 1 : 5, fits ? 1 : 5, fits ? 1 : 5, 5};
                    for (int g = 0; g < 7; g++) Check.due("ROW of " + g, x.guest(g, 0, 5), rows[g]);
                    x.put(0, form, 0, stop == 512 ? 10 : stop);
                    Check.due("not even the first", x.read(0), 0);
                    Check.due("ROW of 0 as it was", x.guest(0, 0, 0), 5);
                }
            }
        });
        Edges.of(8, "ten at most: how many.", () -> {
            for (int size : new int[] {0, 1, 9, 10, 11, 48}) {
                ShoesHall x = new ShoesHall();
                for (int g = 0; g < 10; g++) x.guest(g, 0, 7);
                x.sheet(2, 1, size);
                int many = Math.min(size, 10);
                Check.due("of " + size + " items", x.read(2), many);
                for (int g = 0; g < 10; g++) Check.due("ROW of " + g, x.guest(g, 0, 0), g < many ? 0 : 7);
            }
            ShoesHall x = new ShoesHall();
            Evening.sheet(x, 0, 2, 1, 1, 1, 1, 1, 1, 1, 1, 1, 1, 10);
            Check.due("an eleventh that may not be is not asked", x.read(0), 10);
        });
        Edges.of(8, "BAD; NULL.", () -> {
            Evening.bad("read(?)", 0, 3, (x, v) -> x.read(v));
            Evening.refuses("read of a LOST one", Evening.NULL, 1, x -> x.read(3));
            Evening.refusesBehind(x -> x.lose(1), "read of one that was lost again", Evening.NULL, 1, x -> x.read(1));
        });
    }
}
