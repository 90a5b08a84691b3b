import java.util.function.Consumer;
import java.util.function.ToLongFunction;

/** A hall with something of everything in it, and whether refused calls leave it as it was. */
final class Evening {
    static final int LEAST_INT = Integer.MIN_VALUE, MOST_INT = Integer.MAX_VALUE;
    static final int NULL = -11, INDEX = -12, CAST = -13, STORE = -14, SIZE = -15;

    /** A call with one number left open. */
    interface WithNumber {
        long on(ShoesHall x, int number);
    }

    private Evening() {
    }

    /** All ten come, g finds no room, e and i stay; SHEETS 0 and 1 are bytes, 2 ints, 3 is LOST. */
    static ShoesHall full(int latestFinding) {
        ShoesHall x = new ShoesHall();
        String[] texts = {"hdjbfacgei", "bchgjafd", "bcadfegihj"};
        for (int text = 0; text < 3; text++) {
            for (char c : texts[text].toCharArray()) x.type(text, c);
        }
        Check.layTo(x, "2011021021");
        for (int g = 0; g < 10; g++) {
            x.guest(g, 1, g % 4);
            x.guest(g, 2, g * 7 % 31);
        }
        int[] settings = {3, 2, 7, 4};
        for (int what = 0; what < 4; what++) x.set(what, settings[what]);
        x.ahead(1, 2);
        x.ahead(9, 3);
        x.ahead(2, 4);
        sheet(x, 0, 0, 1, -2, 3, 4, 5);
        sheet(x, 1, 0, 9, 8, 7);
        sheet(x, 2, 2, LEAST_INT, 77777);
        if (latestFinding == 5) x.sheet(3, 0, -1);
        if (latestFinding == 1) x.lose(3);
        return x;
    }

    static void sheet(ShoesHall x, int s, int form, int... items) {
        x.sheet(s, form, items.length);
        for (int i = 0; i < items.length; i++) x.put(s, form, i, items[i]);
    }

    /** All that can be told of a hall but the latest finding; the hall is no longer what it was behind it. */
    static String everything(ShoesHall x) {
        StringBuilder all = new StringBuilder();
        all.append(x.digest()).append(" night ").append(x.night(3, 5));
        for (int left = 0; left < 4; left++) all.append(" fits ").append(x.fits(left));
        for (int s = 0; s < 4; s++) {
            for (int form = 0; form < 3; form++) {
                for (int i = 0; i < 6; i++) all.append(' ').append(x.get(s, form, i));
            }
            all.append(" lose ").append(x.lose(s));
        }
        for (int what = 0; what < 3; what++) {
            for (int g = 0; g < 10; g++) all.append(' ').append(x.guest(g, what, 0));
        }
        for (int what = 0; what < 4; what++) all.append(" set ").append(x.set(what, 1));
        all.append(" forget ").append(x.forget());
        for (int text = 2; text >= 0; text--) {
            for (int i = 0; i < 11; i++) {
                all.append(" undo ").append(x.undo(text)).append(' ').append(x.fault(text)).append(' ').append(x.digest());
            }
        }
        return all.toString();
    }

    /** A call is refused, tells its finding (0: none), and nothing else has changed behind it. */
    static void refuses(String call, long answer, int finding, ToLongFunction<ShoesHall> asked) {
        refusesBehind(x -> { }, call, answer, finding, asked);
    }

    /** The same, where something was done first. */
    static void refusesBehind(Consumer<ShoesHall> first, String call, long answer, int finding,
            ToLongFunction<ShoesHall> asked) {
        for (int latest : new int[] {0, 1, 5}) {
            ShoesHall x = full(latest);
            ShoesHall twin = full(latest);
            first.accept(x);
            first.accept(twin);
            Check.due(call, asked.applyAsLong(x), answer);
            Check.due(call + ": the latest finding", x.count(8), finding == 0 ? twin.count(8) : finding);
            Check.due(call + ": all else", everything(x), everything(twin));
        }
    }

    /** All numbers aside of least to most are BAD: the nearest, and the farthest. */
    static void bad(String call, int least, int most, WithNumber asked) {
        badAs(ShoesHall.BAD, call, least, most, asked);
    }

    static void badLong(String call, int least, int most, WithNumber asked) {
        badAs(Check.LONG_BAD, call, least, most, asked);
    }

    private static void badAs(long answer, String call, int least, int most, WithNumber asked) {
        for (int v : new int[] {LEAST_INT, least - 1, most + 1, MOST_INT}) {
            refuses(call.replace("?", String.valueOf(v)), answer, 0, x -> asked.on(x, v));
        }
        for (int v : new int[] {least, most}) {
            ShoesHall x = full(0);
            Check.due(call.replace("?", String.valueOf(v)) + " is not BAD", asked.on(x, v) == answer ? 1 : 0, 0);
        }
    }
}
