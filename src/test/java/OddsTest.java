/** Promises 18 and 19: mean, heap. */
public final class OddsTest {
    public static void main(String[] args) {
        means();
        heaps();
        Check.end("OddsTest");
    }

    private static void mean(ShoesHall x, int p, long above, long below) {
        Check.due("mean " + p + " above", x.mean(p, 0), above);
        Check.due("mean " + p + " below", x.mean(p, 1), below);
    }

    private static void means() {
        ShoesHall x = Check.hall("abcd", "bac");
        // As told 2 + 2 + 1, from the last one back 1 + 2 + 1.
        mean(x, 16, 5, 1);
        mean(x, 0, 4, 1);
        mean(x, 8, 9, 2);
        mean(x, 4, 17, 4);
        mean(x, 1, 65, 16);
        x.set(0, 2);
        // c and d are not laid: 0 as told, 1 back.
        mean(x, 4, 3, 4);
        mean(x, 16, 0, 1);
        mean(new ShoesHall(), 7, 0, 1);
        Check.due("mean 17", x.mean(17, 0), Check.LONG_BAD);
        Check.due("mean -1", x.mean(-1, 0), Check.LONG_BAD);
        Check.due("mean what 2", x.mean(0, 2), Check.LONG_BAD);
        Check.due("mean what -1", x.mean(0, -1), Check.LONG_BAD);
    }

    private static void heap(ShoesHall x, int i, long above, long below) {
        Check.due("heap " + i + " above", x.heap(i, 0), above);
        Check.due("heap " + i + " below", x.heap(i, 1), below);
    }

    private static void heaps() {
        ShoesHall x = Check.hall("abcd", "bac");
        heap(x, 0, 6, 1);
        heap(x, 1, 14, 3);
        heap(x, 2, 10, 3);
        heap(x, -1, 14, 1);
        Check.due("d does not go", x.heap(3, 0), Check.LONG_BAD);
        Check.due("heap -2", x.heap(-2, 0), Check.LONG_BAD);
        Check.due("heap what 2", x.heap(0, 2), Check.LONG_BAD);
        Check.due("heap what -1", x.heap(-1, -1), Check.LONG_BAD);
        Check.layTo(x, "0101");
        x.set(0, 1);
        // Only a and b are laid.
        heap(x, 0, 10, 3);
        heap(x, 1, 2, 1);
        heap(x, -1, 16, 3);
        Check.due("c has no pair there", x.heap(2, 0), Check.LONG_BAD);
        heap(new ShoesHall(), -1, 0, 1);
        Check.due("heap of nobody", new ShoesHall().heap(0, 0), Check.LONG_BAD);
    }
}
