/** Promises 9 to 13: judged, lies, lifted, rows, proof. */
public final class HallTest {
    private static final int NONE = ShoesHall.NONE;

    public static void main(String[] args) {
        judging();
        lying();
        lifting();
        noneLifted();
        proving();
        theProofIsAsLongAsTheRowsAreMany();
        Check.end("HallTest");
    }

    private static void judging() {
        ShoesHall x = Check.hall("dcbafe", "");
        Check.due("all find room", x.judged(), NONE);
        x.set(0, 2);
        Check.due("the third finds none", x.judged(), 1);
        Check.layTo(x, "111000");
        Check.due("two rows of three", x.judged(), 0);
        Check.due("four are laid", x.count(3), 4);
        Check.due("in two rows", x.count(4), 2);
        x.set(0, 3);
        Check.due("now there is room", x.judged(), NONE);
        x.set(0, 2);
        x.type(0, 'k');
        Check.due("with a fault nobody is judged", x.judged(), NONE);
    }

    private static void lying() {
        ShoesHall x = Check.hall("cabd", "ad");
        Check.layTo(x, "0001");
        int[] atFirst = {2, 0, 1, NONE};
        int[] behindOne = {2, 1, NONE, NONE};
        for (int i = 0; i < 4; i++) {
            Check.due("lies at first " + i, x.lies(0, 0, i), atFirst[i]);
            Check.due("lies behind one " + i, x.lies(1, 0, i), behindOne[i]);
        }
        Check.due("row 1 behind one", x.lies(1, 1, 0), 3);
        Check.due("row 1 behind two", x.lies(2, 1, 0), NONE);
        Check.due("an empty row", x.lies(0, 9, 9), NONE);
        Check.due("no so many goings", x.lies(3, 0, 0), ShoesHall.BAD);
        Check.due("goings below 0", x.lies(-1, 0, 0), ShoesHall.BAD);
        Check.due("row 10", x.lies(0, 10, 0), ShoesHall.BAD);
        Check.due("row -1", x.lies(0, -1, 0), ShoesHall.BAD);
        Check.due("i 10", x.lies(0, 0, 10), ShoesHall.BAD);
        Check.due("i -1", x.lies(0, 0, -1), ShoesHall.BAD);
        x.set(0, 1);
        Check.due("a goer without a pair counts as a going", x.lies(2, 0, 0), 2);
        Check.due("its pair does not lie there", x.lies(0, 0, 1), NONE);
    }

    private static void lifting() {
        ShoesHall x = Check.hall("abcd", "bac");
        Check.due("b", x.lifted(1), 2);
        Check.due("a, with b gone", x.lifted(0), 2);
        Check.due("c", x.lifted(2), 1);
        Check.due("d stays", x.lifted(3), ShoesHall.NOT);
        Check.due("e does not come", x.lifted(4), ShoesHall.NOT);
        Check.due("all", x.lifted(NONE), 5);
        Check.due("guest 10", x.lifted(10), ShoesHall.BAD);
        Check.due("guest -2", x.lifted(-2), ShoesHall.BAD);
        x.set(0, 2);
        Check.due("c was not laid", x.lifted(2), ShoesHall.NOT);
        Check.due("b with two laid", x.lifted(1), 0);
        Check.due("a with two laid", x.lifted(0), 0);
        Check.layTo(x, "0101");
        Check.due("two rows: a", x.lifted(0), 1);
        Check.due("two rows: b", x.lifted(1), 1);
        Check.due("two rows: c", x.lifted(2), 0);
        Check.due("two rows, all", x.lifted(NONE), 2);
    }

    private static void noneLifted() {
        ShoesHall x = Check.hall("cafdbe", "abcd");
        int[] rows = {0, 1, 0, 1, 2, 1};
        for (int g = 0; g < 6; g++) {
            Check.due("row of " + g, x.rows(g), rows[g]);
        }
        Check.due("the fewest", x.rows(NONE), 3);
        Check.due("g does not come", x.rows(6), ShoesHall.NOT);
        Check.due("rows 10", x.rows(10), ShoesHall.BAD);
        Check.due("rows -2", x.rows(-2), ShoesHall.BAD);
        x.set(0, 1);
        Check.due("rows are as deep as one likes", x.rows(NONE), 3);
        Check.due("ten rows", Check.hall("abcdefghij", "").rows(9), 9);
        Check.due("nobody", new ShoesHall().rows(NONE), 0);
    }

    private static void proving() {
        ShoesHall x = Check.hall("cafdbe", "abcd");
        int[] proof = {0, 1, 4, NONE};
        Check.due("how many", x.proof(NONE), 3);
        for (int i = 0; i < 4; i++) {
            Check.due("proof " + i, x.proof(i), proof[i]);
        }
        ShoesHall y = Check.hall("hdjbfacgei", "bchgjafd");
        int[] longer = {1, 2, 6, 4, 8, NONE};
        for (int i = 0; i < 6; i++) {
            Check.due("least letters, one by one, " + i, y.proof(i), longer[i]);
        }
        Check.due("proof 9 of nobody", new ShoesHall().proof(9), NONE);
        Check.due("proof of nobody", new ShoesHall().proof(NONE), 0);
        Check.due("proof 10", x.proof(10), ShoesHall.BAD);
        Check.due("proof -2", x.proof(-2), ShoesHall.BAD);
    }

    private static void theProofIsAsLongAsTheRowsAreMany() {
        java.util.Random random = new java.util.Random(5);
        java.util.List<Integer> all = new java.util.ArrayList<>(java.util.List.of(0, 1, 2, 3, 4, 5, 6, 7, 8, 9));
        for (int run = 0; run < 200; run++) {
            ShoesHall x = new ShoesHall();
            for (int text = 0; text < 2; text++) {
                java.util.Collections.shuffle(all, random);
                for (int g : all) {
                    x.type(text, 97 + g);
                }
            }
            Check.due("as many", x.proof(NONE), x.rows(NONE));
            for (int g = 0; g < 10; g++) {
                x.guest(g, 0, x.rows(g));
            }
            Check.due("nothing is lifted", x.lifted(NONE), 0);
        }
    }
}
