/** Promises 1 to 5: a new object, type, wipe, undo, fault. */
public final class TextsTest {
    public static void main(String[] args) {
        aNewObject();
        typing();
        wiping();
        undoing();
        faultsOfComings();
        faultsOfGoings();
        faultsOfWorn();
        Check.end("TextsTest");
    }

    private static void aNewObject() {
        ShoesHall x = new ShoesHall();
        int[] counts = {0, 0, 0, 0, 0, 0, 1, 10, 0};
        for (int what = 0; what <= 8; what++) {
            Check.due("count " + what + " of a new object", x.count(what), counts[what]);
        }
        Check.due("judged of a new object", x.judged(), ShoesHall.NONE);
        for (int text = 0; text < 3; text++) {
            Check.due("fault of a new object", x.fault(text), ShoesHall.NONE);
        }
        for (int g = 0; g < 10; g++) {
            Check.due("lifted of a new object", x.lifted(g), ShoesHall.NOT);
        }
        for (int s = 0; s < 4; s++) {
            Check.due("lose " + s + " of a new object", x.lose(s), -11);
        }
        for (int g = 0; g < 10; g++) {
            for (int what = 0; what < 3; what++) {
                Check.due("guest " + g + " at first", x.guest(g, what, 0), 0);
            }
        }
        int[] settings = {10, 1, 2, 1};
        for (int what = 0; what < 4; what++) {
            Check.due("set " + what + " at first", x.set(what, settings[what]), settings[what]);
        }
    }

    private static void typing() {
        ShoesHall x = new ShoesHall();
        for (int text = 0; text < 3; text++) {
            for (int i = 1; i <= 10; i++) {
                Check.due("type", x.type(text, i % 2 == 0 ? 0 : 255), i);
            }
            Check.due("type to a full text", x.type(text, 97), ShoesHall.FULL);
            Check.due("a bad byte comes ahead of FULL", x.type(text, 256), ShoesHall.BAD);
            Check.due("type below 0", x.type(text, -1), ShoesHall.BAD);
            Check.due("refusals change nothing", x.wipe(text), 10);
        }
        Check.due("type to text 3", x.type(3, 97), ShoesHall.BAD);
        Check.due("type to text -1", x.type(-1, 97), ShoesHall.BAD);
    }

    private static void wiping() {
        ShoesHall x = Check.hall("abc", "ab");
        Check.due("wipe", x.wipe(0), 3);
        Check.due("wipe again", x.wipe(0), 0);
        Check.due("nobody comes", x.count(0), 0);
        Check.due("goings go on to be there", x.wipe(1), 2);
        Check.due("wipe of text 3", x.wipe(3), ShoesHall.BAD);
        Check.due("wipe of text -1", x.wipe(-1), ShoesHall.BAD);
    }

    private static void undoing() {
        ShoesHall x = Check.hall("abk", "ba");
        Check.due("with a fault nobody comes", x.count(0), 0);
        Check.due("undo of the fault", x.undo(0), 2);
        Check.due("two come", x.count(0), 2);
        Check.due("goings are told again", x.lifted(ShoesHall.NONE), 0);
        Check.due("undo of a going", x.undo(1), 1);
        Check.due("one goes", x.count(1), 1);
        Check.due("undo", x.undo(1), 0);
        Check.due("undo of an empty text", x.undo(1), ShoesHall.NOT);
        Check.due("undo of text 3", x.undo(3), ShoesHall.BAD);
        Check.due("undo of text -1", x.undo(-1), ShoesHall.BAD);
    }

    private static void faultOf(int text, String comings, String bytes, int want) {
        ShoesHall x = Check.hall(comings, "");
        Check.type(x, text, bytes);
        Check.due("fault of " + bytes, x.fault(text), want);
        Check.due("count of " + bytes, x.count(text), want == ShoesHall.NONE ? bytes.length() : 0);
    }

    private static void faultsOfComings() {
        faultOf(0, "", "", -1);
        faultOf(0, "", "jihgfedcba", -1);
        faultOf(0, "", "`", 0);
        faultOf(0, "", "abk", 2);
        faultOf(0, "", "aA", 1);
        faultOf(0, "", "abcba", 3);
        faultOf(0, "", "a\0bb", 1);
        faultOf(0, "", "ab" + (char) 255, 2);
        Check.due("fault of text 3", new ShoesHall().fault(3), ShoesHall.BAD);
        Check.due("fault of text -1", new ShoesHall().fault(-1), ShoesHall.BAD);
    }

    private static void faultsOfGoings() {
        faultOf(1, "abc", "", -1);
        faultOf(1, "abc", "cb", -1);
        faultOf(1, "abc", "cd", 1);
        faultOf(1, "abc", "cc", 1);
        faultOf(1, "aba", "a", 0);
        faultOf(1, "aba", "", -1);
        ShoesHall x = Check.hall("ab", "abc");
        Check.due("goings by comings", x.fault(1), 2);
        x.type(0, 'c');
        Check.due("goings by comings as these are now", x.fault(1), -1);
        x.type(0, 'c');
        Check.due("goings by comings with a fault", x.fault(1), 0);
    }

    private static void faultsOfWorn() {
        faultOf(2, "", "", -1);
        faultOf(2, "", "a", -1);
        faultOf(2, "", "b", 1);
        faultOf(2, "", "ba", -1);
        faultOf(2, "", "bb", 1);
        faultOf(2, "", "cab", -1);
        faultOf(2, "", "caj", 3);
        faultOf(2, "", "cak", 2);
        faultOf(2, "", "jabcdefghi", -1);
        faultOf(2, "", "abcdefghij", -1);
        faultOf(2, "", "abcdefghia", 9);
    }
}
