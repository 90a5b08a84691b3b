/** Promise 37: digest, made again from the other answers, and that it changes nothing. */
public final class DigestTest {
    private static long h;

    public static void main(String[] args) {
        digestOf(new ShoesHall());
        ShoesHall x = Check.hall("hdjbfacgei", "bchgjafd");
        Check.type(x, 2, "bcad");
        Check.layTo(x, "2011021021");
        digestOf(x);
        x.set(0, 2);
        x.set(1, 3);
        x.ahead(1, 2);
        x.ahead(2, 9);
        x.guest(4, 1, 2);
        x.guest(7, 2, 33);
        x.lose(0);
        digestOf(x);
        x.type(0, 'a');
        digestOf(x);
        Check.end("DigestTest");
    }

    private static void more(long part) {
        h = 31 * h + part;
    }

    private static void digestOf(ShoesHall x) {
        h = 17;
        for (int i = 0; i <= 7; i++) more(x.count(i));
        for (int i = 0; i <= 2; i++) more(x.fault(i));
        more(x.judged());
        for (int g = 0; g <= 9; g++) {
            more(x.lifted(g));
            more(x.rows(g));
            more(x.out(g));
            more(x.wrong(g));
        }
        more(x.lifted(-1));
        more(x.rows(-1));
        for (int i = -1; i <= 2; i++) more(x.proof(i));
        more(x.out(-1));
        more(x.wrong(-1));
        more(x.swaps());
        for (int i = -1; i <= 1; i++) more(x.least(2, i));
        for (int rule = 0; rule <= 3; rule++) more(x.rule(rule, 2));
        more(x.best(2));
        more(x.gap(2));
        for (int what = 0; what <= 1; what++) more(x.mean(5, what));
        for (int what = 0; what <= 1; what++) more(x.heap(-1, what));
        for (int what = 0; what <= 1; what++) more(x.heap(0, what));
        for (int what = 0; what <= 1; what++) more(x.alike(what));
        more(x.fits(1));
        more(x.firsts(1));
        more(x.night(7, 3));
        int latest = x.count(8);
        Check.due("digest", x.digest(), h);
        Check.due("digest again", x.digest(), h);
        Check.due("digest changes no finding", x.count(8), latest);
    }
}
