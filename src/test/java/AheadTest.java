/** Promises 24 to 28: ahead, forget, fits, sure, firsts. */
public final class AheadTest {
    public static void main(String[] args) {
        telling();
        fitting();
        beingSure();
        goingFirst();
        Check.end("AheadTest");
    }

    private static void telling() {
        ShoesHall x = new ShoesHall();
        Check.due("ahead of itself", x.ahead(3, 3), ShoesHall.BAD);
        Check.due("ahead 10", x.ahead(10, 0), ShoesHall.BAD);
        Check.due("ahead -1", x.ahead(-1, 0), ShoesHall.BAD);
        Check.due("ahead of 10", x.ahead(0, 10), ShoesHall.BAD);
        Check.due("ahead of -1", x.ahead(0, -1), ShoesHall.BAD);
        for (int i = 1; i <= 8; i++) {
            Check.due("ahead, also what was told before", x.ahead(0, i == 2 ? 1 : i), i);
        }
        Check.due("a ninth", x.ahead(0, 9), ShoesHall.FULL);
        Check.due("a bad one comes ahead of FULL", x.ahead(9, 9), ShoesHall.BAD);
        Check.due("by count", x.count(5), 8);
        Check.due("forget", x.forget(), 8);
        Check.due("forget again", x.forget(), 0);
        Check.due("by count, forgotten", x.count(5), 0);
        Check.due("ahead again", x.ahead(9, 0), 1);
    }

    private static void fitting() {
        ShoesHall x = Check.hall("abcdefghij", "");
        Check.due("all orders", x.fits(0), 3628800);
        Check.due("nobody went", x.fits(1023), 1);
        x.ahead(0, 1);
        Check.due("half of them", x.fits(0), 1814400);
        Check.due("of three", x.fits(0b1111111000), 3);
        Check.due("the one ahead did not go", x.fits(1), 0);
        Check.due("the one behind did not go", x.fits(2), 0);
        for (int i = 1; i < 8; i++) {
            x.ahead(i, i + 1);
        }
        Check.due("a row of nine, and one anywhere", x.fits(0), 10);
        x.forget();
        x.ahead(0, 1);
        x.ahead(1, 2);
        x.ahead(2, 0);
        Check.due("a ring fits nowhere", x.fits(0), 0);
        x.forget();
        x.ahead(0, 1);
        x.ahead(1, 0);
        Check.due("a ring of two", x.fits(0), 0);
        x.forget();
        Check.due("forgotten", x.fits(0b1111111000), 6);
        Check.due("forgotten, with a left", x.fits(1), 362880);
        for (int i = 0; i < 10; i += 2) {
            x.ahead(i + 1, i);
        }
        Check.due("five pairs, all ten told", x.fits(0), 113400);
        ShoesHall y = Check.hall("ab", "");
        Check.due("left of who did not come", y.fits(1020), 2);
        y.ahead(0, 2);
        Check.due("told of who did not come", y.fits(0), 0);
        Check.due("fits 1024", y.fits(1024), Check.LONG_BAD);
        Check.due("fits -1", y.fits(-1), Check.LONG_BAD);
    }

    private static void beingSure() {
        ShoesHall x = Check.hall("abcde", "");
        x.ahead(1, 2);
        x.ahead(0, 1);
        x.ahead(2, 3);
        Check.due("as told", x.sure(0, 0, 1), 1);
        Check.due("through others", x.sure(0, 0, 3), 1);
        Check.due("the other way", x.sure(0, 3, 0), 0);
        Check.due("nothing told", x.sure(0, 0, 4), 0);
        Check.due("e is left", x.sure(16, 1, 3), 1);
        x.ahead(4, 0);
        Check.due("with e left none fits", x.sure(16, 1, 3), 0);
        x.ahead(3, 4);
        Check.due("in a ring none fits", x.sure(0, 0, 1), 0);
        x.forget();
        x.ahead(2, 0);
        x.ahead(4, 2);
        Check.due("a as the last", x.sure(0, 4, 0), 1);
        x.ahead(0, 4);
        Check.due("a ring through a", x.sure(0, 2, 0), 0);
        Check.due("itself", x.sure(0, 1, 1), ShoesHall.BAD);
        Check.due("who did not come", x.sure(0, 1, 5), ShoesHall.BAD);
        Check.due("who did not come, ahead", x.sure(0, 5, 1), ShoesHall.BAD);
        Check.due("who is left", x.sure(2, 1, 0), ShoesHall.BAD);
        Check.due("who is left, behind", x.sure(2, 0, 1), ShoesHall.BAD);
        Check.due("sure 10", x.sure(0, 10, 1), ShoesHall.BAD);
        Check.due("sure -1", x.sure(0, 1, -1), ShoesHall.BAD);
        Check.due("left 1024", x.sure(1024, 0, 1), ShoesHall.BAD);
        Check.due("left -1", x.sure(-1, 0, 1), ShoesHall.BAD);
    }

    private static void goingFirst() {
        ShoesHall x = Check.hall("abcde", "");
        Check.due("each", x.firsts(0), 31);
        Check.due("each but who is left", x.firsts(2), 29);
        Check.due("nobody went", x.firsts(31), 0);
        x.ahead(1, 2);
        x.ahead(0, 1);
        Check.due("not those behind", x.firsts(0), 25);
        Check.due("none fits", x.firsts(1), 0);
        x.ahead(2, 0);
        Check.due("a ring", x.firsts(0), 0);
        Check.due("firsts 1024", x.firsts(1024), ShoesHall.BAD);
        Check.due("firsts -1", x.firsts(-1), ShoesHall.BAD);
    }
}
