import java.util.ArrayDeque;
import java.util.Deque;
import java.util.HashMap;
import java.util.Map;

/** Sentences of promises 20 to 23: out, wrong, swaps, alike. */
final class EdgesOfCrowd {
    private static final int NONE = ShoesHall.NONE, BAD = ShoesHall.BAD, NOT = ShoesHall.NOT;
    private static final String ALL = "abcdefghij";

    private EdgesOfCrowd() {
    }

    static void all() {
        promise20();
        promise20Order();
        promise21();
        promise22();
        promise23();
    }

    /** A hall in which nothing is lifted, so that each needs the minutes of LOOK alone. */
    private static ShoesHall crowd(String goings, int room, int look, int... minutes) {
        ShoesHall x = Check.hall(new StringBuilder(goings).reverse().toString(), goings);
        x.set(1, room);
        x.set(2, look);
        for (int g = 0; g < minutes.length; g++) x.guest(g, 2, minutes[g]);
        return x;
    }

    private static void outs(ShoesHall x, int... wants) {
        int last = 0;
        for (int g = 0; g < wants.length; g++) {
            Check.due("out(" + g + ")", x.out(g), wants[g]);
            last = Math.max(last, wants[g]);
        }
        Check.due("out(NONE)", x.out(NONE), last);
    }

    private static void promise20() {
        Edges.of(20, "When a GUEST is out; when all are (guest = NONE; 0: nobody goes).", () -> {
            outs(new ShoesHall(), NOT, NOT, NOT);
            outs(Check.hall("ab", ""), NOT, NOT);
            outs(crowd("abc", 1, 5), 5, 10, 15);
            ShoesHall x = Check.hall("abc", "abc");
            x.set(1, 9);
            x.set(3, 9);
            // The first one to enter is the last one out.
            outs(x, 20, 11, 2);
        });
        Edges.of(20, "BAD; NOT, as LIFTED.", () -> {
            Evening.bad("out(?)", NONE, 9, (x, v) -> x.out(v));
            Evening.refuses("e stays", NOT, 0, x -> x.out(4));
            Evening.refuses("g found no room for its pair", NOT, 0, x -> x.out(6));
            Evening.refusesBehind(x -> x.undo(0), "i does not come", NOT, 0, x -> x.out(8));
            ShoesHall x = Evening.full(0);
            for (int g = 0; g < 10; g++) {
                Check.due("NOT as lifted", x.out(g) == NOT ? 1 : 0, x.lifted(g) == NOT ? 1 : 0);
            }
        });
        Edges.of(20, "(Those whose pair was not laid go by without a minute: they are not told.)", () -> {
            ShoesHall x = Check.hall("cbad", "abc");
            x.set(0, 1);
            x.guest(0, 2, 50);
            x.guest(1, 2, 60);
            // Only c's pair was laid: a and b, told ahead of it, hold up nobody.
            outs(x, NOT, NOT, 2, NOT);
            Check.type(x, 1, "ab");
            outs(x, NOT, NOT, NOT, NOT);
        });
    }

    private static void promise20Order() {
        Edges.of(20, "GUESTS enter by GOINGS, each as soon as its MINUTE is there", () -> {
            outs(crowd("abc", 9, 2, 5, 6, 7), 7, 8, 9);
            outs(crowd("abc", 9, 2, 0, 0, 0), 2, 2, 2);
            outs(crowd("cba", 1, 2), 6, 4, 2);
            // The minute at which the one ahead is out, the one ahead of it, the one behind it.
            outs(crowd("ab", 1, 2, 0, 1), 2, 4);
            outs(crowd("ab", 1, 2, 0, 2), 2, 4);
            outs(crowd("ab", 1, 2, 0, 3), 2, 5);
            outs(crowd("ab", 1, 60, 99, 99), 159, 219);
        });
        Edges.of(20, "nobody told ahead of it is to enter still", () -> {
            outs(crowd("abc", 9, 2, 30, 0, 0), 32, 32, 32);
            outs(crowd("abc", 9, 2, 0, 30, 10), 2, 32, 32);
            outs(crowd("abc", 1, 2, 30, 0, 0), 32, 34, 36);
        });
        Edges.of(20, "and somebody is out, if there is no room: when it is out.", () -> {
            outs(crowd("abcde", 2, 3), 3, 3, 6, 6, 9);
            outs(crowd("abc", 2, 3, 0, 2, 2), 3, 5, 6);
            outs(crowd("abcd", 2, 3, 0, 2, 2, 2), 3, 5, 6, 8);
            outs(crowd("abcd", 3, 60, 0, 1, 2, 3), 60, 61, 62, 120);
            ShoesHall x = Check.hall("abcd", ALL.substring(0, 4));
            x.set(1, 2);
            x.set(3, 5);
            // They need 17, 12, 7, 2 minutes: c enters when b is out, d when a is.
            outs(x, 17, 12, 19, 19);
        });
    }

    private static ShoesHall worn(String letters) {
        ShoesHall x = new ShoesHall();
        Check.type(x, 2, letters);
        return x;
    }

    private static void promise21() {
        Edges.of(21, "How many have not their own (guest = NONE), how long the RING of a GUEST is.", () -> {
            Check.due("nobody", new ShoesHall().wrong(NONE), 0);
            Check.due("all", worn("jabcdefghi").wrong(NONE), 10);
            for (int g = 0; g < 10; g++) Check.due("a ring of ten", worn("jabcdefghi").wrong(g), 10);
        });
        Edges.of(21, "WRONG: who has whose, by WORN: RINGS: how many GUESTS have not their own", () -> {
            Check.due("each its own", worn(ALL).wrong(NONE), 0);
            Check.due("two of three", worn("acb").wrong(NONE), 2);
            Check.due("all of three", worn("cab").wrong(NONE), 3);
            ShoesHall x = worn("ba");
            Check.type(x, 0, "c");
            Check.due("whoever comes", x.wrong(NONE), 2);
        });
        Edges.of(21, "how long the RING of a GUEST is (1: its own)", () -> {
            ShoesHall x = worn("bcadfe");
            int[] rings = {3, 3, 3, 1, 2, 2};
            for (int g = 0; g < 6; g++) Check.due("ring of " + g, x.wrong(g), rings[g]);
            Check.due("the only one, its own", worn("a").wrong(0), 1);
        });
        Edges.of(21, "BAD: not in WORN.", () -> {
            Evening.bad("wrong(?)", NONE, 9, (x, v) -> x.wrong(v));
            for (int many = 0; many < 10; many++) {
                ShoesHall x = worn(ALL.substring(0, many));
                Check.due("the first that is not in it", x.wrong(many), BAD);
                Check.due("the last that is", many == 0 ? 1 : x.wrong(many - 1), 1);
            }
            Check.due("one that comes, but is not in WORN", Check.hall("a", "").wrong(0), BAD);
            Check.due("in WORN with a fault", worn("ac").wrong(0), BAD);
        });
    }

    /** The fewest swaps of two that lead to each order of the first letters, by trying all. */
    private static Map<String, Integer> fewestSwaps(String first) {
        Map<String, Integer> fewest = new HashMap<>();
        Deque<String> open = new ArrayDeque<>();
        fewest.put(first, 0);
        open.add(first);
        while (!open.isEmpty()) {
            String order = open.remove();
            for (int i = 0; i < first.length(); i++) {
                for (int j = 0; j < i; j++) {
                    StringBuilder next = new StringBuilder(order);
                    next.setCharAt(i, order.charAt(j));
                    next.setCharAt(j, order.charAt(i));
                    if (fewest.putIfAbsent(next.toString(), fewest.get(order) + 1) == null) open.add(next.toString());
                }
            }
        }
        return fewest;
    }

    private static void promise22() {
        Edges.of(22, "The fewest SWAPS.", () -> {
            Check.due("nobody", new ShoesHall().swaps(), 0);
            Check.due("each its own", worn(ALL).swaps(), 0);
            Check.due("a ring of ten", worn("jabcdefghi").swaps(), 9);
            Check.due("five rings of two", worn("badcfehgji").swaps(), 5);
            Check.due("WORN with a fault", worn("bac" + "e").swaps(), 0);
        });
        Edges.of(22, "the fewest SWAPS of two till all have theirs.", () -> {
            for (int many = 1; many <= 5; many++) {
                fewestSwaps(ALL.substring(0, many)).forEach((order, fewest) -> {
                    Check.due("swaps of " + order, worn(order).swaps(), fewest);
                });
            }
        });
    }

    private static void promise23() {
        Edges.of(23, "ALIKE: all ways (what = 0), those in which nobody has its own (1).", () -> {
            Check.due("nobody comes, all ways", new ShoesHall().alike(0), 1);
            Check.due("nobody comes, nobody has its own", new ShoesHall().alike(1), 1);
            Check.due("one, all ways", Check.hall("a", "").alike(0), 1);
            Check.due("one, who has its own", Check.hall("a", "").alike(1), 0);
            Check.due("ten, all ways", Check.hall(ALL, "").alike(0), 3628800);
            Check.due("ten, nobody has its own", Check.hall(ALL, "").alike(1), 1334961);
        });
        Edges.of(23, "BAD. (As the least long.)", () -> Evening.badLong("alike(?)", 0, 1, (x, v) -> x.alike(v)));
        Edges.of(23, "ALIKE: of GUESTS who come, in how many ways all can have taken a pair that LOOKS as theirs", () -> {
            ShoesHall x = Check.hall("abcd", "");
            x.guest(0, 1, 3);
            x.guest(1, 1, 3);
            Check.due("two and two", x.alike(0), 4);
            x.guest(9, 1, 3);
            Check.due("j does not come", x.alike(0), 4);
            x.type(0, 'j');
            Check.due("three and two", x.alike(0), 12);
            x.guest(2, 1, 1);
            x.guest(3, 1, 2);
            Check.due("three, one and one", x.alike(0), 6);
            x.set(0, 1);
            Check.due("also those who found no room", x.alike(0), 6);
            x.type(0, 'j');
            Check.due("COMINGS with a fault", x.alike(0), 1);
        });
        Edges.of(23, "in how many nobody has its own.", () -> {
            ShoesHall x = Check.hall("abcde", "");
            Check.due("five alike", x.alike(1), 44);
            x.guest(0, 1, 1);
            Check.due("one looks as no other", x.alike(1), 0);
            x.guest(1, 1, 1);
            Check.due("two and three", x.alike(1), 2);
        });
    }
}
