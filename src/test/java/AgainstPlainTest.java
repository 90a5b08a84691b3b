import java.util.ArrayList;
import java.util.Collections;
import java.util.List;
import java.util.Random;

/** Runs of calls, each answered by the class and by Plain: promises 1 to 37, together. */
public final class AgainstPlainTest {
    private static final int[] ODD = {Integer.MIN_VALUE, Integer.MAX_VALUE, -2, -1, 0, 1, 10, 48, 49, 255, 256, 1023, 1024};
    private static final int KINDS = 37;
    private final Random random;
    private final int run;
    private final ShoesHall x = new ShoesHall();
    private final Plain y = new Plain();

    private AgainstPlainTest(int run) {
        this.run = run;
        random = new Random(run);
    }

    public static void main(String[] args) {
        for (int run = 0; run < 400; run++) {
            AgainstPlainTest t = new AgainstPlainTest(run);
            int calls = t.evening();
            for (; calls < 200; calls++) {
                t.call(t.random.nextInt(KINDS));
            }
            t.call(36);
        }
        Check.end("AgainstPlainTest");
    }

    /** A number from least to most; now and then one aside of them. */
    private int some(int least, int most) {
        int die = random.nextInt(40);
        if (die == 0) return ODD[random.nextInt(ODD.length)];
        if (die == 1) return least - 1;
        if (die == 2) return most + 1;
        return least + random.nextInt(most - least + 1);
    }

    private void due(String call, long got, long want) {
        Check.due("run " + run + ": " + call, got, want);
    }

    private List<Integer> shuffled(int size) {
        List<Integer> all = new ArrayList<>();
        for (int i = 0; i < size; i++) all.add(i);
        Collections.shuffle(all, random);
        return all;
    }

    private void typeAll(int text, List<Integer> guests) {
        due("wipe", x.wipe(text), y.wipe(text));
        for (int g : guests) {
            due("type", x.type(text, 97 + g), y.type(text, 97 + g));
        }
    }

    private int evening() {
        int many = random.nextInt(11);
        List<Integer> comers = shuffled(10).subList(0, many);
        List<Integer> goers = new ArrayList<>(comers);
        Collections.shuffle(goers, random);
        typeAll(0, comers);
        typeAll(1, goers.subList(0, random.nextInt(3) == 0 ? random.nextInt(many + 1) : many));
        typeAll(2, shuffled(random.nextInt(11)));
        int rows = 1 + random.nextInt(random.nextBoolean() ? 3 : 10);
        for (int g = 0; g < 10; g++) {
            int row = random.nextInt(rows);
            due("guest", x.guest(g, 0, row), y.guest(g, 0, row));
        }
        if (random.nextBoolean()) {
            int deep = 1 + random.nextInt(4);
            due("set", x.set(0, deep), y.set(0, deep));
        }
        return 50;
    }

    private void call(int kind) {
        if (kind < 7) {
            callOfHall(kind);
        } else if (kind < 18) {
            callOfLayings(kind);
        } else if (kind < 28) {
            callOfCrowd(kind);
        } else {
            callOfSheets(kind);
        }
    }

    private void callOfHall(int kind) {
        int a = some(0, 2), g = some(0, 9), letter = some(97, 106);
        int v = random.nextInt(3) == 0 ? some(0, 99) : some(0, 9);
        switch (kind) {
            case 0: if (random.nextInt(3) == 0) due("type " + a + " " + letter, x.type(a, letter), y.type(a, letter)); break;
            case 1: if (random.nextInt(6) == 0) due("wipe " + a, x.wipe(a), y.wipe(a)); else evening(); break;
            case 2: due("undo " + a, x.undo(a), y.undo(a)); break;
            case 3: due("fault " + a, x.fault(a), y.fault(a)); break;
            case 4: due("guest " + g + " " + a + " " + v, x.guest(g, a, v), y.guest(g, a, v)); break;
            case 5: int what = some(0, 3); due("set " + what + " " + v, x.set(what, v), y.set(what, v)); break;
            default: int s = some(0, 3); due("read " + s, x.read(s), y.read(s));
        }
    }

    private void callOfLayings(int kind) {
        int i = some(-1, 9), j = some(0, 9), k = some(1, 3), m = some(1, 9), what = some(0, 1);
        switch (kind) {
            case 7: due("judged", x.judged(), y.judged()); break;
            case 8: int gone = some(0, Math.max(0, y.count(1))); int r = some(0, 9);
                due("lies " + gone + " " + r + " " + j, x.lies(gone, r, j), y.lies(gone, r, j)); break;
            case 9: due("lifted " + i, x.lifted(i), y.lifted(i)); break;
            case 10: due("rows " + i, x.rows(i), y.rows(i)); break;
            case 11: due("proof " + i, x.proof(i), y.proof(i)); break;
            case 12: int p = some(-1, 6); due("least " + k + " " + p, x.least(k, p), y.least(k, p)); break;
            case 13: int rule = some(0, 3); due("rule " + rule + " " + m, x.rule(rule, m), y.rule(rule, m)); break;
            case 14: due("best " + m, x.best(m), y.best(m)); break;
            case 15: due("gap " + k, x.gap(k), y.gap(k)); break;
            case 16: int odds = some(0, 16); due("mean " + odds + " " + what, x.mean(odds, what), y.mean(odds, what)); break;
            default: due("heap " + i + " " + what, x.heap(i, what), y.heap(i, what));
        }
    }

    private void callOfCrowd(int kind) {
        int i = some(-1, 9), a = some(0, 9), b = some(0, 9), what = some(0, 1);
        int left = random.nextBoolean() ? 0 : random.nextBoolean() ? 1 << random.nextInt(10) : some(0, 1023);
        switch (kind) {
            case 18: due("out " + i, x.out(i), y.out(i)); break;
            case 19: due("wrong " + i, x.wrong(i), y.wrong(i)); break;
            case 20: due("swaps", x.swaps(), y.swaps()); break;
            case 21: due("alike " + what, x.alike(what), y.alike(what)); break;
            case 22: due("ahead " + a + " " + b, x.ahead(a, b), y.ahead(a, b)); break;
            case 23: if (random.nextInt(4) == 0) due("forget", x.forget(), y.forget()); break;
            case 24: due("fits " + left, x.fits(left), y.fits(left)); break;
            case 25: due("sure " + left + " " + a + " " + b, x.sure(left, a, b), y.sure(left, a, b)); break;
            case 26: due("firsts " + left, x.firsts(left), y.firsts(left)); break;
            default: int seed = random.nextInt(), n = some(1, 60); due("night " + seed + " " + n, x.night(seed, n), y.night(seed, n));
        }
    }

    private void callOfSheets(int kind) {
        int s = some(0, 3), t = some(0, 3), form = random.nextInt(3) == 0 ? some(0, 2) : 0, i = some(0, 6), j = some(0, 6);
        switch (kind) {
            case 28: int size = random.nextBoolean() ? some(0, 12) : some(0, 48); due("sheet " + s + " " + form + " " + size, x.sheet(s, form, size), y.sheet(s, form, size)); break;
            case 29: if (random.nextInt(3) == 0) due("lose " + s, x.lose(s), y.lose(s)); break;
            case 30: int v = random.nextInt(4) == 0 ? random.nextInt() : some(0, 9);
                due("put " + s + " " + form + " " + i + " " + v, x.put(s, form, i, v), y.put(s, form, i, v)); break;
            case 31: due("get " + s + " " + form + " " + i, x.get(s, form, i), y.get(s, form, i)); break;
            case 32: case 33: int n = some(0, 6); due("copy " + s + " " + i + " " + t + " " + j + " " + n, x.copy(s, i, t, j, n), y.copy(s, i, t, j, n)); break;
            case 34: due("write " + s, x.write(s), y.write(s)); break;
            case 35: int what = some(0, 8); due("count " + what, x.count(what), y.count(what)); break;
            default: due("digest", x.digest(), y.digest());
        }
    }
}
