/** Promises 30 to 36: sheet, lose, put, get, copy, write, count. */
public final class SheetsTest {
    private static final int LEAST = Integer.MIN_VALUE;
    private static final int NULL = -11, INDEX = -12, CAST = -13, STORE = -14, SIZE = -15;

    public static void main(String[] args) {
        sheets();
        losing();
        putting();
        getting();
        copying();
        writing();
        counting();
        Check.end("SheetsTest");
    }

    private static ShoesHall with(int s, int form, int n) {
        ShoesHall x = new ShoesHall();
        x.sheet(s, form, n);
        return x;
    }

    private static void sheets() {
        ShoesHall x = new ShoesHall();
        Check.due("sheet", x.sheet(0, 2, 48), 48);
        Check.due("sheet of none", x.sheet(3, 0, 0), 0);
        Check.due("above 48", x.sheet(0, 2, 49), ShoesHall.BAD);
        Check.due("sheet 4", x.sheet(4, 2, 1), ShoesHall.BAD);
        Check.due("sheet -1", x.sheet(-1, 2, -1), ShoesHall.BAD);
        Check.due("form 3", x.sheet(0, 3, 1), ShoesHall.BAD);
        Check.due("form -1", x.sheet(0, -1, -1), ShoesHall.BAD);
        Check.due("BAD is no finding", x.count(8), 0);
        Check.due("below 0", x.sheet(0, 2, -1), SIZE);
        Check.due("the finding", x.count(8), 5);
        x.put(0, 2, 47, 5);
        Check.due("a refusal changed nothing", x.get(0, 2, 47), 5);
        x.sheet(0, 2, 48);
        Check.due("a new one has 0s", x.get(0, 2, 47), 0);
        x.put(0, 2, 0, 5);
        x.sheet(0, 0, 1);
        Check.due("a new one of another form has 0s", x.get(0, 0, 0), 0);
    }

    private static void losing() {
        ShoesHall x = with(2, 1, 7);
        Check.due("lose", x.lose(2), 7);
        Check.due("lose again", x.lose(2), NULL);
        Check.due("the finding", x.count(8), 1);
        Check.due("lose 4", x.lose(4), ShoesHall.BAD);
        Check.due("lose -1", x.lose(-1), ShoesHall.BAD);
    }

    private static void putting() {
        ShoesHall x = with(0, 0, 3);
        Check.due("put", x.put(0, 0, 2, 300), 1);
        Check.due("the lowest 8 bits", x.get(0, 0, 2), 44);
        x.put(0, 0, 2, 200);
        Check.due("a byte below 0", x.get(0, 0, 2), -56);
        x.sheet(1, 1, 1);
        x.put(1, 1, 0, 0x1ffff);
        Check.due("the lowest 16 bits", x.get(1, 1, 0), -1);
        x.sheet(2, 2, 1);
        x.put(2, 2, 0, Integer.MAX_VALUE);
        Check.due("an int", x.get(2, 2, 0), Integer.MAX_VALUE);
        Check.due("sheet 4", x.put(4, 0, 0, 0), ShoesHall.BAD);
        Check.due("sheet -1", x.put(-1, 0, 0, 0), ShoesHall.BAD);
        Check.due("form 3 ahead of NULL", x.put(3, 3, 0, 0), ShoesHall.BAD);
        Check.due("form -1", x.put(0, -1, 0, 0), ShoesHall.BAD);
        Check.due("NULL", x.put(3, 0, 9, 0), NULL);
        Check.due("CAST ahead of INDEX", x.put(0, 1, 3, 0), CAST);
        Check.due("the finding", x.count(8), 3);
        Check.due("INDEX", x.put(0, 0, 3, 0), INDEX);
        Check.due("INDEX below 0", x.put(0, 0, -1, 0), INDEX);
        Check.due("the finding", x.count(8), 2);
    }

    private static void getOf(ShoesHall x, int s, int form, int i, int finding) {
        Check.due("get refused", x.get(s, form, i), LEAST);
        Check.due("the finding of get", x.count(8), finding);
    }

    private static void getting() {
        ShoesHall x = with(0, 0, 3);
        Check.due("get", x.get(0, 0, 2), 0);
        getOf(x, 4, 0, 0, 0);
        getOf(x, -1, 0, 0, 0);
        getOf(x, 0, 3, 0, 0);
        getOf(x, 0, -1, 0, 0);
        getOf(x, 1, 0, 0, 1);
        getOf(x, 0, 2, 3, 3);
        getOf(x, 0, 0, 3, 2);
        getOf(x, 0, 1, 0, 3);
        getOf(x, 0, 0, -1, 2);
        getOf(x, 1, 2, 5, 1);
    }

    private static void items(ShoesHall x, int s, int form, int... wants) {
        for (int i = 0; i < wants.length; i++) {
            Check.due("item " + i, x.get(s, form, i), wants[i]);
        }
    }

    private static void copying() {
        ShoesHall x = with(0, 1, 5);
        x.sheet(1, 1, 3);
        for (int i = 0; i < 5; i++) {
            x.put(0, 1, i, i + 1);
        }
        Check.due("copy", x.copy(0, 3, 1, 1, 2), 1);
        items(x, 1, 1, 0, 4, 5);
        Check.due("copy on itself, forth", x.copy(0, 0, 0, 1, 4), 1);
        items(x, 0, 1, 1, 1, 2, 3, 4);
        Check.due("copy on itself, back", x.copy(0, 2, 0, 0, 3), 1);
        items(x, 0, 1, 2, 3, 4, 3, 4);
        x.sheet(3, 1, 5);
        Check.due("copy of all", x.copy(0, 0, 3, 0, 5), 1);
        items(x, 3, 1, 2, 3, 4, 3, 4);
        x.lose(3);
        Check.due("copy of none at the end", x.copy(0, 5, 1, 3, 0), 1);
        Check.due("copy of none behind the end", x.copy(0, 6, 1, 0, 0), INDEX);
        Check.due("not so many to take", x.copy(0, 4, 1, 0, 2), INDEX);
        Check.due("not so much room", x.copy(0, 0, 1, 2, 2), INDEX);
        Check.due("from below 0", x.copy(0, -1, 1, 0, 1), INDEX);
        Check.due("to below 0", x.copy(0, 0, 1, -1, 1), INDEX);
        Check.due("fewer than none", x.copy(0, 1, 1, 1, -1), INDEX);
        Check.due("sums that would wrap", x.copy(0, Integer.MAX_VALUE, 1, 0, Integer.MAX_VALUE), INDEX);
        Check.due("sums that would wrap", x.copy(0, 1, 1, 1, Integer.MAX_VALUE), INDEX);
        Check.due("the finding", x.count(8), 2);
        items(x, 1, 1, 0, 4, 5);
        x.sheet(2, 2, 5);
        Check.due("STORE ahead of INDEX", x.copy(0, -1, 2, 9, 9), STORE);
        Check.due("the finding", x.count(8), 4);
        Check.due("NULL of s", x.copy(3, -1, 0, 0, 0), NULL);
        Check.due("NULL of t", x.copy(2, -1, 3, 0, 0), NULL);
        Check.due("sheet 4", x.copy(4, 0, 3, 0, 0), ShoesHall.BAD);
        Check.due("to sheet 4", x.copy(3, 0, 4, 0, 0), ShoesHall.BAD);
        Check.due("sheet -1", x.copy(-1, 0, 0, 0, 0), ShoesHall.BAD);
        Check.due("to sheet -1", x.copy(0, 0, -1, 0, 0), ShoesHall.BAD);
    }

    private static void writing() {
        for (int form = 0; form < 3; form++) {
            ShoesHall x = Check.hall("abcd", "bac");
            x.sheet(0, form, 5);
            for (int i = 0; i < 5; i++) {
                x.put(0, form, i, 7);
            }
            Check.due("as many as there are guests", x.write(0), 3);
            items(x, 0, form, 2, 2, 1, 7, 7);
            x.sheet(0, form, 2);
            Check.due("as many as there are items", x.write(0), 2);
            items(x, 0, form, 2, 2);
            x.guest(1, 0, 1);
            x.guest(3, 0, 1);
            x.set(0, 1);
            // Only a and b are laid.
            x.sheet(0, form, 3);
            Check.due("only those whose pair was laid", x.write(0), 2);
            items(x, 0, form, 0, 0, 0);
        }
        ShoesHall x = with(0, 0, 3);
        Check.due("nobody goes", x.write(0), 0);
        Check.due("write to a LOST one", x.write(1), NULL);
        Check.due("write 4", x.write(4), ShoesHall.BAD);
        Check.due("write -1", x.write(-1), ShoesHall.BAD);
    }

    private static void counting() {
        ShoesHall x = Check.hall("abcd", "bac");
        Check.type(x, 2, "ba");
        Check.layTo(x, "0001");
        x.ahead(0, 1);
        x.set(1, 5);
        x.set(0, 2);
        int[] counts = {4, 3, 2, 3, 2, 1, 5, 2, 0};
        for (int what = 0; what < 9; what++) {
            Check.due("count " + what, x.count(what), counts[what]);
        }
        Check.due("count 9", x.count(9), ShoesHall.BAD);
        Check.due("count -1", x.count(-1), ShoesHall.BAD);
        x.lose(0);
        x.sheet(0, 0, -5);
        Check.due("the latest finding", x.count(8), 5);
        Check.due("a call that is fine leaves it", x.sheet(0, 0, 5), 5);
        Check.due("the latest finding still", x.count(8), 5);
    }
}
