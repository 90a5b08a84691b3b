import java.util.function.ToLongFunction;

/** Sentences of promises 30 to 35: sheet, lose, put, get, copy, write. */
final class EdgesOfSheets {
    private static final int BAD = ShoesHall.BAD;
    private static final int LEAST = Evening.LEAST_INT, MOST = Evening.MOST_INT;
    private static final int NULL = Evening.NULL, INDEX = Evening.INDEX, CAST = Evening.CAST, STORE = Evening.STORE,
        SIZE = Evening.SIZE;

    private EdgesOfSheets() {
    }

    static void all() {
        promise30();
        promise31();
        promise32();
        promise33();
        promise34();
        promise34Refused();
        promise35();
    }

    private static void items(ShoesHall x, int s, int form, int... wants) {
        for (int i = 0; i < wants.length; i++) Check.due("item " + i, x.get(s, form, i), wants[i]);
        Check.due("an item more", x.put(s, form, wants.length, 0), INDEX);
    }

    private static void promise30() {
        Edges.of(30, "A SHEET is a new row of a FORM with n items: n.", () -> {
            ShoesHall x = new ShoesHall();
            for (int s = 0; s < 4; s++) {
                for (int form = 0; form < 3; form++) {
                    Check.due("sheet", x.sheet(s, form, 2), 2);
                    Check.due("an item of it", x.put(s, form, 1, 5), 1);
                    Check.due("the item", x.get(s, form, 1), 5);
                    Check.due("a new one, alike", x.sheet(s, form, 3), 3);
                    for (int i = 0; i < 3; i++) Check.due("its items are new", x.get(s, form, i), 0);
                    x.put(s, form, 2, 6);
                    Check.due("a shorter one", x.sheet(s, form, 1), 1);
                    Check.due("a longer one again", x.sheet(s, form, 3), 3);
                    Check.due("nothing of the old one", x.get(s, form, 2), 0);
                    x.put(s, form, 0, 7);
                }
            }
        });
        Edges.of(30, "SHEETS 0 .. 3 are LOST (at first) or a row of a FORM: 0 bytes, 1 shorts, 2 ints, "
                + "of 0 to 48 items (0 at first).", () -> {
            for (int s = 0; s < 4; s++) {
                for (int form = 0; form < 3; form++) {
                    ShoesHall x = new ShoesHall();
                    Check.due("LOST at first", x.lose(s), NULL);
                    Check.due("48 items", x.sheet(s, form, 48), 48);
                    for (int i = 0; i < 48; i++) Check.due("0 at first", x.get(s, form, i), 0);
                    Check.due("no more", x.put(s, form, 48, 1), INDEX);
                    Check.due("no items", x.sheet(s, form, 0), 0);
                    Check.due("not one", x.put(s, form, 0, 1), INDEX);
                    Check.due("but not LOST", x.lose(s), 0);
                    Check.due("the others are LOST still", x.lose((s + 1) % 4), NULL);
                }
            }
        });
        Edges.of(30, "BAD: SHEET, FORM, above 48; SIZE.", () -> {
            Evening.bad("sheet(?, 0, 1)", 0, 3, (x, v) -> x.sheet(v, 0, 1));
            Evening.bad("sheet(0, ?, 1)", 0, 2, (x, v) -> x.sheet(0, v, 1));
            for (int n : new int[] {49, 50, MOST}) {
                for (int s = 0; s < 4; s++) {
                    int it = s;
                    Evening.refuses("above 48", BAD, 0, x -> x.sheet(it, 1, n));
                }
            }
            Evening.refuses("no SHEET, and below 0", BAD, 0, x -> x.sheet(4, 0, -1));
            Evening.refuses("no FORM, and below 0", BAD, 0, x -> x.sheet(0, 3, -1));
        });
        Edges.of(30, "5 SIZE: below 0.", () -> {
            for (int n : new int[] {-1, -2, LEAST}) {
                for (int s = 0; s < 4; s++) {
                    int it = s;
                    Evening.refuses("below 0", SIZE, 5, x -> x.sheet(it, 1, n));
                }
            }
        });
    }

    private static void promise31() {
        Edges.of(31, "It is LOST: how many items it had.", () -> {
            for (int n : new int[] {0, 1, 47, 48}) {
                ShoesHall x = new ShoesHall();
                x.sheet(2, 1, n);
                Check.due("how many", x.lose(2), n);
                Check.due("it is LOST", x.lose(2), NULL);
                Check.due("for reading too", x.read(2), NULL);
                Check.due("for getting too", x.get(2, 1, 0), LEAST);
                Check.due("a new one", x.sheet(2, 1, 48), 48);
                for (int i = 0; i < 48; i++) Check.due("with new items", x.get(2, 1, i), 0);
            }
            ShoesHall x = new ShoesHall();
            for (int s = 0; s < 4; s++) x.sheet(s, 2, s + 1);
            Check.due("lose the third", x.lose(2), 3);
            for (int s : new int[] {0, 1, 3}) Check.due("the others are there", x.lose(s), s + 1);
        });
        Edges.of(31, "BAD; NULL.", () -> {
            for (int s : new int[] {LEAST, -1, 4, MOST}) Evening.refuses("lose(" + s + ")", BAD, 0, x -> x.lose(s));
            Evening.refuses("lose of a LOST one", NULL, 1, x -> x.lose(3));
        });
        Edges.of(31, "1 NULL: the SHEET is LOST", () -> {
            Evening.refuses("lose", NULL, 1, x -> x.lose(3));
            Evening.refuses("read", NULL, 1, x -> x.read(3));
            Evening.refuses("write", NULL, 1, x -> x.write(3));
            Evening.refuses("put", NULL, 1, x -> x.put(3, 0, 0, 0));
            Evening.refuses("get", LEAST, 1, x -> x.get(3, 0, 0));
            Evening.refuses("copy from", NULL, 1, x -> x.copy(3, 0, 0, 0, 0));
            Evening.refuses("copy to", NULL, 1, x -> x.copy(0, 0, 3, 0, 0));
        });
    }

    private static void put(int form, int v, int want) {
        ShoesHall x = new ShoesHall();
        x.sheet(0, form, 3);
        Check.due("put", x.put(0, form, 1, v), 1);
        items(x, 0, form, 0, want, 0);
    }

    private static void promise32() {
        Edges.of(32, "Item i, treated as of a FORM, becomes v (the lowest bits that it has): 1.", () -> {
            int[][] bytes = {{127, 127}, {128, -128}, {255, -1}, {256, 0}, {-128, -128}, {-129, 127}, {MOST, -1}, {LEAST, 0},
                {0x12345680, -128}};
            int[][] shorts = {{32767, 32767}, {32768, -32768}, {65535, -1}, {65536, 0}, {-32768, -32768}, {-32769, 32767},
                {MOST, -1}, {LEAST, 0}, {128, 128}};
            int[] ints = {MOST, LEAST + 1, -1, 65536, 128};
            for (int[] pair : bytes) put(0, pair[0], pair[1]);
            for (int[] pair : shorts) put(1, pair[0], pair[1]);
            for (int v : ints) put(2, v, v);
            ShoesHall x = new ShoesHall();
            x.sheet(3, 2, 48);
            Check.due("the first item", x.put(3, 2, 0, 8), 1);
            Check.due("the last item", x.put(3, 2, 47, 9), 1);
            Check.due("is it", x.get(3, 2, 47) * 10 + x.get(3, 2, 0), 98);
        });
        Edges.of(32, "BAD; NULL; CAST; INDEX.", () -> {
            Evening.bad("put(?, 0, 0, 0)", 0, 3, (x, v) -> x.put(v, 0, 0, 0));
            Evening.bad("put(0, ?, 0, 0)", 0, 2, (x, v) -> x.put(0, v, 0, 0));
            Evening.refuses("no FORM, of a LOST one", BAD, 0, x -> x.put(3, 3, 0, 0));
            Evening.refuses("LOST, ahead of CAST and INDEX", NULL, 1, x -> x.put(3, 2, -1, 0));
            Evening.refuses("another FORM, ahead of INDEX", CAST, 3, x -> x.put(0, 1, -1, 0));
            Evening.refuses("another FORM, of an item that is there", CAST, 3, x -> x.put(2, 0, 0, 0));
            for (int i : new int[] {LEAST, -1, 5, MOST}) Evening.refuses("no item " + i, INDEX, 2, x -> x.put(0, 0, i, 0));
        });
        Edges.of(32, "3 CAST: it has another FORM", () -> {
            for (int form = 0; form < 3; form++) {
                for (int other = 0; other < 3; other++) {
                    ShoesHall x = new ShoesHall();
                    x.sheet(1, form, 1);
                    Check.due("put to form " + form + " as of " + other, x.put(1, other, 0, 3), form == other ? 1 : CAST);
                    Check.due("the finding", x.count(8), form == other ? 0 : 3);
                    Check.due("get", x.get(1, other, 0), form == other ? 3 : LEAST);
                    Check.due("what is there", x.get(1, form, 0), form == other ? 3 : 0);
                }
            }
        });
        Edges.of(32, "2 INDEX: there is no such item", () -> {
            for (int n : new int[] {0, 1, 48}) {
                for (int i : new int[] {LEAST, -1, n, n + 1, MOST}) {
                    ShoesHall x = new ShoesHall();
                    x.sheet(0, 0, n);
                    Check.due("put to item " + i + " of " + n, x.put(0, 0, i, 1), INDEX);
                    Check.due("the finding", x.count(8), 2);
                }
            }
        });
    }

    private static void promise33() {
        Edges.of(33, "Item i of it.", () -> {
            ShoesHall x = Evening.full(0);
            items(x, 0, 0, 1, -2, 3, 4, 5);
            ShoesHall y = Evening.full(0);
            items(y, 1, 0, 9, 8, 7);
            ShoesHall z = Evening.full(0);
            items(z, 2, 2, LEAST, 77777);
        });
        Edges.of(33, "BAD: the least int; so are NULL, CAST, INDEX (count() 8 tells).", () -> {
            for (int v : new int[] {LEAST, -1, 4, MOST}) Evening.refuses("get(" + v + ", 0, 0)", LEAST, 0, x -> x.get(v, 0, 0));
            for (int v : new int[] {LEAST, -1, 3, MOST}) Evening.refuses("get(0, " + v + ", 0)", LEAST, 0, x -> x.get(0, v, 0));
            Evening.refuses("no FORM, of a LOST one", LEAST, 0, x -> x.get(3, -1, 0));
            Evening.refuses("LOST", LEAST, 1, x -> x.get(3, 2, 0));
            Evening.refuses("LOST, ahead of INDEX", LEAST, 1, x -> x.get(3, 0, -1));
            Evening.refuses("another FORM", LEAST, 3, x -> x.get(0, 1, 0));
            Evening.refuses("another FORM, ahead of INDEX", LEAST, 3, x -> x.get(2, 1, 2));
            for (int i : new int[] {LEAST, -1, 2, MOST}) Evening.refuses("no item " + i, LEAST, 2, x -> x.get(2, 2, i));
            Evening.refuses("an item that is the least int is no finding", LEAST, 0, x -> x.get(2, 2, 0));
        });
    }

    private static void promise34() {
        Edges.of(34, "n items of SHEET s, from i on, come to SHEET t (perhaps s, as they were), from j on: 1.", () -> {
            ShoesHall x = Evening.full(0);
            Check.due("two items", x.copy(0, 3, 1, 1, 2), 1);
            items(x, 1, 0, 9, 4, 5);
            x = Evening.full(0);
            Check.due("the other way", x.copy(1, 0, 0, 2, 3), 1);
            items(x, 0, 0, 1, -2, 9, 8, 7);
            x = Evening.full(0);
            Check.due("s is as it was", x.copy(1, 0, 0, 0, 3), 1);
            items(x, 1, 0, 9, 8, 7);
            x = Evening.full(0);
            Check.due("to itself, one on", x.copy(0, 0, 0, 1, 4), 1);
            items(x, 0, 0, 1, 1, -2, 3, 4);
            x = Evening.full(0);
            Check.due("to itself, one back", x.copy(0, 1, 0, 0, 4), 1);
            items(x, 0, 0, -2, 3, 4, 5, 5);
            x = Evening.full(0);
            Check.due("to itself, where it is", x.copy(0, 0, 0, 0, 5), 1);
            items(x, 0, 0, 1, -2, 3, 4, 5);
            x = Evening.full(0);
            x.sheet(3, 2, 2);
            Check.due("all items of ints", x.copy(2, 0, 3, 0, 2), 1);
            items(x, 3, 2, LEAST, 77777);
        });
        Edges.of(34, "BAD: the SHEETS; NULL: s, t; STORE; INDEX: below 0, not so many.", () -> {
            Evening.bad("copy(?, 0, 0, 0, 0)", 0, 3, (x, v) -> x.copy(v, 0, 0, 0, 0));
            Evening.bad("copy(0, 0, ?, 0, 0)", 0, 3, (x, v) -> x.copy(0, 0, v, 0, 0));
            Evening.refuses("no SHEET, from a LOST one", BAD, 0, x -> x.copy(3, 0, 4, 0, 0));
            Evening.refuses("no SHEET, to a LOST one", BAD, 0, x -> x.copy(-1, 0, 3, 0, 0));
            Evening.refuses("LOST, ahead of STORE and INDEX", NULL, 1, x -> x.copy(3, -1, 2, -1, -1));
            Evening.refuses("LOST, ahead of INDEX", NULL, 1, x -> x.copy(2, -1, 3, -1, -1));
            Evening.refuses("LOST, from itself", NULL, 1, x -> x.copy(3, 0, 3, 0, 0));
            Evening.refuses("unlike FORMS, ahead of INDEX", STORE, 4, x -> x.copy(0, -1, 2, 9, 9));
        });
    }

    private static void noItems(String why, ToLongFunction<ShoesHall> asked) {
        Evening.refuses(why, INDEX, 2, asked);
    }

    private static void promise34Refused() {
        Edges.of(34, "INDEX: below 0, not so many.", () -> {
            noItems("from below 0", x -> x.copy(0, -1, 1, 0, 1));
            noItems("from far below 0", x -> x.copy(0, LEAST, 1, 0, 1));
            noItems("to below 0", x -> x.copy(0, 0, 1, -1, 1));
            noItems("to far below 0", x -> x.copy(0, 0, 1, LEAST, 1));
            noItems("fewer than none", x -> x.copy(0, 0, 1, 0, -1));
            noItems("far fewer than none", x -> x.copy(0, 5, 1, 3, LEAST));
            noItems("one too many from there", x -> x.copy(1, 0, 0, 0, 4));
            noItems("one too many to there", x -> x.copy(0, 0, 1, 0, 4));
            noItems("one too many from the second on", x -> x.copy(1, 1, 0, 0, 3));
            noItems("one too many to the second on", x -> x.copy(0, 0, 1, 1, 3));
            noItems("one too many in itself", x -> x.copy(0, 0, 0, 1, 5));
            noItems("the most", x -> x.copy(0, 0, 0, 0, MOST));
            noItems("from the most on", x -> x.copy(0, MOST, 0, 0, 1));
            noItems("to the most on", x -> x.copy(0, 0, 0, MOST, 1));
            noItems("sums that wrap", x -> x.copy(0, MOST, 0, MOST, MOST));
            noItems("sums that wrap to 0", x -> x.copy(0, 1, 0, 1, MOST));
            noItems("none, from behind the end", x -> x.copy(0, 6, 1, 0, 0));
            noItems("none, to behind the end", x -> x.copy(0, 0, 1, 4, 0));
            ShoesHall x = Evening.full(0);
            Check.due("none", x.copy(0, 0, 1, 0, 0), 1);
            Check.due("none, from the end to the end", x.copy(0, 5, 1, 3, 0), 1);
            Check.due("no finding", x.count(8), 0);
            items(x, 1, 0, 9, 8, 7);
            ShoesHall y = new ShoesHall();
            y.sheet(0, 0, 0);
            Check.due("none of none", y.copy(0, 0, 0, 0, 0), 1);
            Check.due("one of none", y.copy(0, 0, 0, 0, 1), INDEX);
        });
        Edges.of(34, "4 STORE: unlike FORMS", () -> {
            for (int from = 0; from < 3; from++) {
                for (int to = 0; to < 3; to++) {
                    ShoesHall x = new ShoesHall();
                    x.sheet(0, from, 1);
                    x.sheet(1, to, 1);
                    x.put(0, from, 0, 3);
                    Check.due("copy of " + from + " to " + to, x.copy(0, 0, 1, 0, 1), from == to ? 1 : STORE);
                    Check.due("the finding", x.count(8), from == to ? 0 : 4);
                    Check.due("what is there", x.get(1, to, 0), from == to ? 3 : 0);
                    Check.due("also of no items", x.copy(0, 0, 1, 0, 0), from == to ? 1 : STORE);
                }
            }
        });
    }

    private static void promise35() {
        Edges.of(35, "LIFTED for GUESTS by GOINGS (those whose pair was laid) comes to a SHEET from item 0 on, "
                + "as many as there are items and such GUESTS: how many.", () -> {
            for (int form = 0; form < 3; form++) {
                // f found no room; c goes ahead of a: by GOINGS, not by letters.
                for (int n : new int[] {0, 1, 2, 3, 4, 5, 48}) {
                    ShoesHall x = Check.hall("abcdef", "cfabd");
                    x.set(0, 5);
                    x.sheet(1, form, n);
                    for (int i = 0; i < n; i++) x.put(1, form, i, 77);
                    Check.due("how many of " + n, x.write(1), Math.min(n, 4));
                    int[] lifted = {2, 3, 2, 1, 77};
                    for (int i = 0; i < n; i++) Check.due("item " + i, x.get(1, form, i), lifted[Math.min(i, 4)]);
                }
            }
            ShoesHall x = new ShoesHall();
            x.sheet(0, 0, 48);
            Check.due("nobody goes", x.write(0), 0);
            Check.type(x, 0, "abcdefghij");
            Check.type(x, 1, "abcdefghij");
            Check.due("all ten go", x.write(0), 10);
            for (int i = 0; i < 12; i++) Check.due("item " + i, x.get(0, 0, i), Math.max(0, 9 - i));
        });
        Edges.of(35, "BAD; NULL.", () -> {
            Evening.bad("write(?)", 0, 3, (x, v) -> x.write(v));
            Evening.refuses("write to a LOST one", NULL, 1, x -> x.write(3));
            Evening.refusesBehind(x -> x.lose(0), "write to one that was lost again", NULL, 1, x -> x.write(0));
        });
    }
}
