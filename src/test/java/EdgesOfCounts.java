import java.math.BigInteger;

/** Sentences of promises 36 and 37, count and digest, and what the document says of all refusals. */
final class EdgesOfCounts {
    private static final int NONE = ShoesHall.NONE, BAD = ShoesHall.BAD, NOT = ShoesHall.NOT, FULL = ShoesHall.FULL;

    private EdgesOfCounts() {
    }

    static void all() {
        promise36();
        promise36Findings();
        promise37();
        refusals();
    }

    private static void promise36() {
        Edges.of(36, "0 who come, 1 who go, 2 GUESTS in WORN, 3 pairs that are laid, 4 ROWS in which some pair is laid, "
                + "5 AHEAD, 6 ROOM, 7 DEEP, 8 the number of the latest FINDING (0 before any).", () -> {
            int[] atFirst = {0, 0, 0, 0, 0, 0, 1, 10, 0};
            int[] full = {10, 8, 10, 9, 3, 3, 2, 3, 5};
            for (int what = 0; what < 9; what++) {
                Check.due("count " + what + " at first", new ShoesHall().count(what), atFirst[what]);
                Check.due("count " + what, Evening.full(5).count(what), full[what]);
            }
            ShoesHall x = Check.hall("abc", "ca");
            Check.due("also pairs that are taken later", x.count(3), 3);
            Check.layTo(x, "929");
            Check.due("ROWS", x.count(4), 2);
            x.set(0, 1);
            Check.due("one pair finds no room", x.count(3), 2);
            Check.layTo(x, "222");
            Check.due("one ROW", x.count(4), 1);
            x.type(0, 'c');
            for (int what = 0; what < 5; what++) Check.due("COMINGS with a fault, count " + what, x.count(what), 0);
        });
        Edges.of(36, "BAD.", () -> Evening.bad("count(?)", 0, 8, (x, v) -> x.count(v)));
    }

    private static void promise36Findings() {
        Edges.of(36, "FINDINGS (answers -10 less the number; they change nothing but count() 8)", () -> {
            ShoesHall x = new ShoesHall();
            x.sheet(0, 0, 1);
            x.sheet(1, 1, 1);
            Check.due("before any", x.count(8), 0);
            Check.due("NULL", x.lose(3), -10 - 1);
            Check.due("it is the latest", x.count(8), 1);
            Check.due("INDEX", x.put(0, 0, 1, 0), -10 - 2);
            Check.due("it is the latest", x.count(8), 2);
            Check.due("CAST", x.put(0, 1, 0, 0), -10 - 3);
            Check.due("it is the latest", x.count(8), 3);
            Check.due("STORE", x.copy(0, 0, 1, 0, 0), -10 - 4);
            Check.due("it is the latest", x.count(8), 4);
            Check.due("SIZE", x.sheet(0, 0, -1), -10 - 5);
            Check.due("it is the latest", x.count(8), 5);
            x.type(0, 999);
            x.undo(0);
            x.lifted(0);
            x.put(0, 0, 0, 1);
            x.sheet(0, 0, 49);
            x.digest();
            Check.due("neither other refusals nor calls that are fine change it", x.count(8), 5);
            x.get(3, 0, 0);
            Check.due("get tells it here alone", x.count(8), 1);
        });
    }

    private static BigInteger more(BigInteger h, long... parts) {
        for (long part : parts) h = h.multiply(BigInteger.valueOf(31)).add(BigInteger.valueOf(part));
        return h;
    }

    /** The digest as a number that does not wrap; only its lowest 64 bits are told. */
    private static long digestOf(ShoesHall x) {
        BigInteger h = BigInteger.valueOf(17);
        for (int what = 0; what < 8; what++) h = more(h, x.count(what));
        h = more(h, x.fault(0), x.fault(1), x.fault(2), x.judged());
        for (int g = 0; g < 10; g++) h = more(h, x.lifted(g), x.rows(g), x.out(g), x.wrong(g));
        h = more(h, x.lifted(NONE), x.rows(NONE), x.proof(NONE), x.proof(0), x.proof(1), x.proof(2));
        h = more(h, x.out(NONE), x.wrong(NONE), x.swaps(), x.least(2, NONE), x.least(2, 0), x.least(2, 1));
        h = more(h, x.rule(0, 2), x.rule(1, 2), x.rule(2, 2), x.rule(3, 2), x.best(2), x.gap(2), x.mean(5, 0), x.mean(5, 1));
        h = more(h, x.heap(NONE, 0), x.heap(NONE, 1), x.heap(0, 0), x.heap(0, 1), x.alike(0), x.alike(1));
        return more(h, x.fits(1), x.firsts(1), x.night(7, 3)).longValue();
    }

    private static void promise37() {
        Edges.of(37, "h is 17; h becomes 31 h and each of: count() 0 to 7; of texts fault(); judged(); of GUESTS lifted(it), "
                + "rows(it), out(it), wrong(it) (as they are told); lifted(NONE), rows(NONE), proof() NONE to 2, out(NONE), "
                + "wrong(NONE), swaps(), least(2, NONE to 1), of RULES rule(it, 2), best(2), gap(2), mean(5), heap(NONE), "
                + "heap(0) (as it is told), above, below each, alike() 0, 1, fits(1), firsts(1), night(7, 3); "
                + "as longs that wrap.", () -> {
            ShoesHall[] halls = {new ShoesHall(), Evening.full(0), Evening.full(5), Check.hall("a", ""), Check.hall("ba", "a"),
                Check.hall("aa", ""), Check.hall("abcdefghij", "abcdefghij"), Check.hall("ab", "ba"), Check.hall("bac", "abc"),
                Check.hall("bacd", "abcd")};
            Check.type(halls[3], 2, "ba");
            Check.type(halls[4], 2, "b");
            halls[6].ahead(1, 2);
            for (ShoesHall x : halls) {
                int latest = x.count(8);
                long due = digestOf(x);
                Check.due("digest", x.digest(), due);
                Check.due("digest again", x.digest(), due);
                Check.due("it is no finding, nor is what is told in it", x.count(8), latest);
            }
            Check.due("a finding is not in it", Evening.full(0).digest(), Evening.full(5).digest());
            Check.due("heap(0) as it is told", new ShoesHall().heap(0, 1), Check.LONG_BAD);
        });
    }

    private static void refusals() {
        Edges.of(11, "Refusals, the first that fits, in the order told at each act: BAD -2 (a number not as told, no such thing), "
                + "NULL, NOT -3 (as told), FULL -4, other FINDINGS.", () -> {
            Check.due("BAD", BAD, -2);
            Check.due("NOT", NOT, -3);
            Check.due("FULL", FULL, -4);
            Evening.refuses("type: BAD ahead of FULL", BAD, 0, x -> x.type(0, -1));
            Evening.refusesBehind(EdgesOfAhead::tellAll, "ahead: BAD ahead of FULL", BAD, 0, x -> x.ahead(2, 2));
            Evening.refuses("sheet: BAD ahead of SIZE", BAD, 0, x -> x.sheet(4, 0, -1));
            Evening.refuses("put: BAD ahead of NULL", BAD, 0, x -> x.put(3, 3, 0, 0));
            Evening.refuses("put: NULL ahead of CAST", Evening.NULL, 1, x -> x.put(3, 1, 0, 0));
            Evening.refuses("put: NULL ahead of INDEX", Evening.NULL, 1, x -> x.put(3, 0, 48, 0));
            Evening.refuses("put: CAST ahead of INDEX", Evening.CAST, 3, x -> x.put(0, 2, 48, 0));
            Evening.refuses("copy: BAD ahead of NULL", BAD, 0, x -> x.copy(3, 0, 4, 0, 0));
            Evening.refuses("copy: NULL ahead of STORE", Evening.NULL, 1, x -> x.copy(3, 0, 2, 0, 0));
            Evening.refuses("copy: STORE ahead of INDEX", Evening.STORE, 4, x -> x.copy(0, 0, 2, 0, 99));
        });
        Edges.of(11, "They change nothing (FINDINGS but count() 8).", () -> {
            // That each refused call changes nothing is looked at where it is refused; here all of them on one hall.
            ShoesHall x = Evening.full(5);
            x.type(0, 'a');
            x.type(3, 'a');
            x.wipe(3);
            x.undo(-1);
            x.guest(0, 0, 10);
            x.guest(0, 1, 4);
            x.guest(0, 2, 100);
            x.set(0, 0);
            x.set(1, 10);
            x.set(2, 61);
            x.set(3, -1);
            x.read(3);
            x.ahead(1, 1);
            x.sheet(0, 0, 49);
            x.sheet(0, 0, -1);
            x.lose(3);
            x.put(0, 0, 5, 1);
            x.put(0, 1, 0, 1);
            x.copy(0, 0, 2, 0, 1);
            x.copy(0, 0, 1, 0, 4);
            x.write(3);
            Check.due("all is as it was", Evening.everything(x), Evening.everything(Evening.full(5)));
        });
        Edges.of(18, "Where the answer is a long, a refusal -x is the least long and x more.", () -> {
            long due = Long.MIN_VALUE + 2;
            ShoesHall x = new ShoesHall();
            Check.due("mean", x.mean(17, 0), due);
            Check.due("heap", x.heap(0, 0), due);
            Check.due("alike", x.alike(2), due);
            Check.due("fits", x.fits(1024), due);
            Check.due("night", x.night(0, 61), due);
        });
    }
}
