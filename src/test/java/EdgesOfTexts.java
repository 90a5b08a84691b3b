/** Sentences of promises 1 to 5: a new object, type, wipe, undo, fault. */
final class EdgesOfTexts {
    private static final int NONE = ShoesHall.NONE, BAD = ShoesHall.BAD, NOT = ShoesHall.NOT, FULL = ShoesHall.FULL;
    private static final String ALL = "abcdefghij";

    private EdgesOfTexts() {
    }

    static void all() {
        promise1();
        promise2();
        promise3();
        promise4();
        promise5Comings();
        promise5Goings();
        promise5Worn();
        promise5WithAFault();
    }

    private static void promise1() {
        Edges.of(1, "Nobody comes", () -> {
            ShoesHall x = new ShoesHall();
            int[] counts = {0, 0, 0, 0, 0, 0, 1, 10, 0};
            for (int what = 0; what < 9; what++) Check.due("count " + what, x.count(what), counts[what]);
            Check.due("judged", x.judged(), NONE);
            Check.due("lies", x.lies(0, 0, 0), NONE);
            Check.due("lies behind one going", x.lies(1, 0, 0), BAD);
            Check.due("lifted", x.lifted(NONE), 0);
            Check.due("lifted for a", x.lifted(0), NOT);
            Check.due("rows", x.rows(NONE), 0);
            Check.due("row of a", x.rows(0), NOT);
            Check.due("proof", x.proof(NONE), 0);
            Check.due("least", x.least(1, NONE), 0);
            Check.due("out", x.out(NONE), 0);
            Check.due("fits", x.fits(0), 1);
        });
        Edges.of(1, "all SHEETS are LOST.", () -> {
            for (int s = 0; s < 4; s++) {
                Check.due("lose", new ShoesHall().lose(s), Evening.NULL);
                Check.due("read", new ShoesHall().read(s), Evening.NULL);
                Check.due("write", new ShoesHall().write(s), Evening.NULL);
                Check.due("put", new ShoesHall().put(s, 0, 0, 0), Evening.NULL);
                Check.due("get", new ShoesHall().get(s, 0, 0), Evening.LEAST_INT);
                Check.due("copy", new ShoesHall().copy(s, 0, s, 0, 0), Evening.NULL);
            }
        });
        Edges.of(1, "An object is used for at most 512 calls after it has been made", () -> {
            ShoesHall x = new ShoesHall();
            for (int call = 1; call < 510; call += 3) {
                Check.due("type as call " + call, x.type(0, 'a' + call / 3 % 10), call / 3 % 10 + 1);
                Check.due("count", x.count(0), call / 3 % 10 + 1);
                Check.due("wipe, or what asks nothing", call / 3 % 10 == 9 ? x.wipe(0) : x.judged(),
                    call / 3 % 10 == 9 ? 10 : NONE);
            }
            Check.due("call 511", x.wipe(0), 0);
            Check.due("call 512", x.type(0, 'j'), 1);
        });
    }

    private static void promise2() {
        Edges.of(2, "A byte (0 to 255) comes behind a text (0 to 2): how many.", () -> {
            for (int text = 0; text < 3; text++) {
                ShoesHall x = new ShoesHall();
                Check.due("byte 0", x.type(text, 0), 1);
                Check.due("byte 255", x.type(text, 255), 2);
                Check.due("the same byte again", x.type(text, 255), 3);
                Check.due("the other texts are as they were", x.wipe((text + 1) % 3) + x.wipe((text + 2) % 3), 0);
            }
            ShoesHall x = Check.hall("cab", "");
            int[] behindEachOther = {2, 0, 1, NONE};
            for (int i = 0; i < 4; i++) Check.due("behind, not ahead", x.lies(0, 0, i), behindEachOther[i]);
        });
        Edges.of(2, "Texts have up to 10 bytes.", () -> {
            for (int text = 0; text < 3; text++) {
                ShoesHall x = new ShoesHall();
                for (int i = 0; i < 10; i++) Check.due("ten fit", x.type(text, ALL.charAt(i)), i + 1);
                Check.due("an eleventh does not", x.type(text, 'a'), FULL);
                Check.due("the tenth is undone", x.undo(text), 9);
                Check.due("a tenth fits again", x.type(text, 'j'), 10);
                Check.due("no fault", x.fault(text), text == 1 ? 0 : NONE);
                Check.due("all ten are told by it", x.count(text), text == 1 ? 0 : 10);
            }
        });
        Edges.of(2, "BAD; FULL.", () -> {
            Evening.refuses("type to a full text", FULL, 0, x -> x.type(0, 'a'));
            Evening.refuses("what could be no letter, to a full text", FULL, 0, x -> x.type(2, 0));
            Evening.refuses("no byte, to a full text", BAD, 0, x -> x.type(0, 256));
            Evening.refuses("no byte below 0, to a full text", BAD, 0, x -> x.type(2, -1));
            Evening.refuses("no text and no byte", BAD, 0, x -> x.type(3, 256));
            Evening.bad("type(?, 97)", 0, 2, (x, v) -> x.type(v, 97));
            Evening.bad("type(1, ?)", 0, 255, (x, v) -> x.type(1, v));
        });
    }

    private static void promise3() {
        Edges.of(3, "A text is empty: how many bytes it had.", () -> {
            for (int text = 0; text < 3; text++) {
                ShoesHall x = new ShoesHall();
                Check.due("an empty one had none", x.wipe(text), 0);
                for (int i = 0; i < 10; i++) x.type(text, 'z');
                Check.due("it has a fault", x.fault(text), 0);
                Check.due("a full one had ten, with a fault or without", x.wipe(text), 10);
                Check.due("no fault any more", x.fault(text), NONE);
                Check.due("a byte is the first again", x.type(text, 'a'), 1);
            }
            ShoesHall x = Check.hall("abc", "ab");
            Check.type(x, 2, "ba");
            Check.due("comings are wiped", x.wipe(0), 3);
            Check.due("nobody comes", x.count(0), 0);
            Check.due("goings have their bytes still", x.undo(1), 1);
            Check.due("so does WORN", x.undo(2), 1);
        });
        Edges.of(3, "BAD.", () -> Evening.bad("wipe(?)", 0, 2, (x, v) -> x.wipe(v)));
    }

    private static void promise4() {
        Edges.of(4, "The last byte of a text is undone: how many are left.", () -> {
            for (int text = 0; text < 3; text++) {
                ShoesHall x = new ShoesHall();
                for (int i = 0; i < 10; i++) x.type(text, ALL.charAt(i));
                for (int left = 9; left >= 0; left--) Check.due("left", x.undo(text), left);
                Check.due("then it is empty", x.wipe(text), 0);
            }
            ShoesHall x = Check.hall("cab", "ba");
            x.undo(0);
            Check.due("the last one who comes is undone", x.lies(0, 0, 1), 0);
            Check.due("not the first one", x.lies(0, 0, 0), 2);
            Check.due("goings tell one who does not come", x.fault(1), 0);
        });
        Edges.of(4, "BAD; NOT: it is empty.", () -> {
            Evening.bad("undo(?)", 0, 2, (x, v) -> x.undo(v));
            for (int text = 0; text < 3; text++) {
                int t = text;
                Evening.refusesBehind(x -> x.wipe(t), "undo of an empty text", NOT, 0, x -> x.undo(t));
                Check.due("undo at first", new ShoesHall().undo(text), NOT);
                ShoesHall x = new ShoesHall();
                x.type(text, 0);
                Check.due("undo of the only byte", x.undo(text), 0);
                Check.due("undo of none", x.undo(text), NOT);
                Check.due("it is no finding", x.count(8), 0);
            }
        });
    }

    private static int faultOf(int text, String comings, String bytes) {
        ShoesHall x = Check.hall(comings, "");
        Check.type(x, text, bytes);
        return x.fault(text);
    }

    private static void promise5Comings() {
        Edges.of(5, "The FAULT of a text; NONE.", () -> {
            for (int text = 0; text < 3; text++) {
                Check.due("of an empty text", new ShoesHall().fault(text), NONE);
                Check.due("of one letter", faultOf(text, "a", "a"), NONE);
                Check.due("of no letter", faultOf(text, "a", "?"), 0);
            }
        });
        Edges.of(5, "BAD.", () -> Evening.bad("fault(?)", 0, 2, (x, v) -> x.fault(v)));
        Edges.of(5, "GUESTS are 0 to 9 (letters a to j).", () -> {
            for (int b = 0; b < 256; b++) {
                ShoesHall x = new ShoesHall();
                x.type(0, b);
                boolean letter = b >= 97 && b <= 106;
                Check.due("fault of byte " + b, x.fault(0), letter ? NONE : 0);
                Check.due("the guest of byte " + b, x.lies(0, 0, 0), letter ? b - 97 : NONE);
            }
        });
        Edges.of(5, "COMINGS (text 0) are letters, none twice: who comes, one by one.", () -> {
            Check.due("all ten", faultOf(0, "", "jihgfedcba"), NONE);
            Check.due("one twice, one behind the other", faultOf(0, "", "aa"), 1);
            Check.due("one twice, far apart", faultOf(0, "", "abcdefghia"), 9);
            Check.due("a great letter", faultOf(0, "", "aB"), 1);
            Check.due("the sign below a", faultOf(0, "", "a`"), 1);
            Check.due("the letter behind j", faultOf(0, "", "ak"), 1);
        });
        Edges.of(5, "The FAULT of a text is the place of the first byte with which it cannot go on", () -> {
            for (int text = 0; text < 3; text++) {
                for (int place = 0; place < 10; place++) {
                    StringBuilder bytes = new StringBuilder(ALL);
                    bytes.setCharAt(place, '.');
                    Check.due("at " + place, faultOf(text, ALL, bytes.toString()), place);
                    bytes.setCharAt(9, '!');
                    Check.due("the first of two", faultOf(text, ALL, bytes.toString()), place);
                }
            }
            ShoesHall x = Check.hall("aba", "");
            for (int size = 4; size <= 10; size++) {
                x.type(0, 'a' + size);
                Check.due("bytes behind it change nothing", x.fault(0), 2);
            }
        });
    }

    private static void promise5Goings() {
        Edges.of(5, "GOINGS (text 1) are letters of those who come, none twice: who goes, one by one", () -> {
            Check.due("all who come", faultOf(1, "bdf", "fdb"), NONE);
            Check.due("some who come", faultOf(1, "bdf", "d"), NONE);
            Check.due("none", faultOf(1, "bdf", ""), NONE);
            Check.due("one who does not come", faultOf(1, "bdf", "dc"), 1);
            Check.due("one twice", faultOf(1, "bdf", "fbf"), 2);
            Check.due("where nobody comes", faultOf(1, "", "a"), 0);
            Check.due("no letter", faultOf(1, "bdf", "b\0"), 1);
            Check.due("one who goes first is lifted for", Check.hall("ab", "ab").lifted(NONE), 1);
            Check.due("one who goes last is not", Check.hall("ab", "ba").lifted(NONE), 0);
        });
        Edges.of(5, "(all goings are behind all comings; who is not told stays)", () -> {
            ShoesHall x = new ShoesHall();
            Check.type(x, 1, "a");
            Check.due("told ahead of any coming", x.fault(1), 0);
            Check.type(x, 0, "ab");
            Check.due("now it comes", x.fault(1), NONE);
            Check.due("b came ahead of a's going, though told behind it", x.lifted(0), 1);
            Check.due("b stays", x.lies(1, 0, 0), 1);
            Check.due("b does not go", x.lifted(1), NOT);
            Check.due("one goes", x.count(1), 1);
        });
        Edges.of(5, "GOINGS are looked at by COMINGS as these are.", () -> {
            ShoesHall x = Check.hall("ab", "abc");
            Check.due("c does not come", x.fault(1), 2);
            x.type(0, 'c');
            Check.due("c comes now", x.fault(1), NONE);
            Check.due("three go", x.count(1), 3);
            x.undo(0);
            Check.due("c's coming is undone", x.fault(1), 2);
            x.type(0, 'a');
            Check.due("COMINGS with a fault tell nobody", x.fault(1), 0);
            x.wipe(0);
            Check.due("nobody comes", x.fault(1), 0);
            x.wipe(1);
            Check.due("nobody comes and nobody goes", x.fault(1), NONE);
        });
    }

    private static void promise5Worn() {
        Edges.of(5, "WORN (text 2) are letters, none twice: whose pair GUEST 0 wears, GUEST 1, and so on: "
                + "just the first letters, as many as there are.", () -> {
            Check.due("none", faultOf(2, "", ""), NONE);
            Check.due("just a", faultOf(2, "", "a"), NONE);
            Check.due("the first three", faultOf(2, "", "cab"), NONE);
            Check.due("all ten", faultOf(2, "", "jihgfedcba"), NONE);
            Check.due("one twice", faultOf(2, "", "aba"), 2);
            Check.due("the tenth twice", faultOf(2, "", "abcdefghii"), 9);
            Check.due("no letter", faultOf(2, "", "ba,"), 2);
            Check.due("who comes means nothing for it", faultOf(2, "j", "cab"), NONE);
            ShoesHall x = new ShoesHall();
            Check.type(x, 2, "bca");
            Check.due("0 wears 1's, 1 wears 2's, 2 wears 0's", x.wrong(0), 3);
            Check.type(x, 2, "acb");
            Check.due("0 wears its own", x.wrong(0), 1);
            Check.due("1 wears 2's, 2 wears 1's", x.wrong(1), 2);
        });
        Edges.of(5, "of WORN also its end, if it has not all of the first letters; NONE.", () -> {
            ShoesHall x = new ShoesHall();
            for (int size = 1; size <= 10; size++) {
                x.type(2, 'j' + 1 - size);
                Check.due("the end of " + size + " letters from j back", x.fault(2), size == 10 ? NONE : size);
                Check.due("as if it was empty", x.count(2), size == 10 ? 10 : 0);
            }
            Check.due("the last of three is not the third letter", faultOf(2, "", "abd"), 3);
            Check.due("one byte that cannot go on comes ahead of the end", faultOf(2, "", "bdb"), 2);
            Check.due("COMINGS need not be the first letters", faultOf(0, "", "bd"), NONE);
            Check.due("nor need GOINGS", faultOf(1, "bd", "d"), NONE);
        });
    }

    private static void promise5WithAFault() {
        Edges.of(5, "With a FAULT it is as if it was empty", () -> {
            ShoesHall x = Check.hall("abcdefghia", "ab");
            Check.due("nobody comes", x.count(0), 0);
            Check.due("nobody goes", x.count(1), 0);
            Check.due("nothing is laid", x.count(3), 0);
            Check.due("nobody is judged", x.judged(), NONE);
            Check.due("nothing lies there", x.lies(0, 0, 0), NONE);
            Check.due("no rows", x.rows(NONE), 0);
            Check.due("a does not come", x.rows(0), NOT);
            Check.due("no ways but one", x.alike(0), 1);
            Check.due("nobody went", x.firsts(0), 0);
            Check.due("a did not come", x.sure(0, 0, 1), BAD);
            Check.due("nothing is lifted at night", x.night(1, 9), 0);
            Check.due("its bytes are there still", x.undo(0), 9);
            Check.due("now nine come", x.count(0), 9);
            Check.due("and two go", x.count(1), 2);
        });
        Edges.of(5, "With a FAULT it is as if it was empty", () -> {
            ShoesHall x = Check.hall("abc", "abk");
            Check.due("of GOINGS: nobody goes", x.count(1), 0);
            Check.due("a does not go", x.lifted(0), NOT);
            Check.due("but all lie there", x.lies(0, 0, 2), 2);
            Check.due("behind no going alone", x.lies(1, 0, 0), BAD);
            Check.due("all go by letters", x.rule(0, 1), 3);
            Check.type(x, 2, "abcc");
            Check.due("of WORN: nobody is in it", x.count(2), 0);
            Check.due("nor is a", x.wrong(0), BAD);
            Check.due("nobody has another's", x.wrong(NONE), 0);
            Check.due("no swaps", x.swaps(), 0);
        });
    }
}
