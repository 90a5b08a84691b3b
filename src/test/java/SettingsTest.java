/** Promises 6 to 8: guest, set, read. */
public final class SettingsTest {
    public static void main(String[] args) {
        guests();
        settings();
        reading();
        Check.end("SettingsTest");
    }

    private static void guests() {
        ShoesHall x = new ShoesHall();
        int[] most = {9, 3, 99};
        for (int what = 0; what < 3; what++) {
            for (int g = 0; g < 10; g++) {
                Check.due("guest", x.guest(g, what, most[what]), 0);
                Check.due("guest above", x.guest(g, what, most[what] + 1), ShoesHall.BAD);
                Check.due("guest below", x.guest(g, what, -1), ShoesHall.BAD);
                Check.due("guest, what it was", x.guest(g, what, 0), most[what]);
            }
        }
        Check.due("guest 10", x.guest(10, 0, 0), ShoesHall.BAD);
        Check.due("guest -1", x.guest(-1, 0, 0), ShoesHall.BAD);
        Check.due("what 3", x.guest(0, 3, 0), ShoesHall.BAD);
        Check.due("what -1", x.guest(0, -1, 0), ShoesHall.BAD);
    }

    private static void settings() {
        ShoesHall x = new ShoesHall();
        int[] first = {10, 1, 2, 1};
        int[] least = {1, 1, 1, 0};
        int[] most = {10, 9, 60, 9};
        for (int what = 0; what < 4; what++) {
            Check.due("set below", x.set(what, least[what] - 1), ShoesHall.BAD);
            Check.due("set above", x.set(what, most[what] + 1), ShoesHall.BAD);
            Check.due("set the most", x.set(what, most[what]), first[what]);
            Check.due("set the least", x.set(what, least[what]), most[what]);
            Check.due("set, what it was", x.set(what, first[what]), least[what]);
        }
        Check.due("set what 4", x.set(4, 1), ShoesHall.BAD);
        Check.due("set what -1", x.set(-1, 1), ShoesHall.BAD);
        x.set(0, 3);
        x.set(1, 4);
        Check.due("ROOM by count", x.count(6), 4);
        Check.due("DEEP by count", x.count(7), 3);
    }

    private static void reading() {
        ShoesHall x = Check.hall("abc", "");
        Check.due("read of a LOST one", x.read(2), -11);
        Check.due("the finding", x.count(8), 1);
        Check.due("read of sheet 4", x.read(4), ShoesHall.BAD);
        Check.due("read of sheet -1", x.read(-1), ShoesHall.BAD);
        for (int form = 0; form < 3; form++) {
            x.sheet(0, form, 12);
            for (int i = 0; i < 12; i++) {
                x.put(0, form, i, 9 - i % 10);
            }
            Check.due("ten at most", x.read(0), 10);
            for (int g = 0; g < 10; g++) {
                Check.due("the row that was read", x.guest(g, 0, 1), 9 - g);
            }
            x.put(0, form, 2, form == 0 ? 10 : -1);
            Check.due("as long as each may be", x.read(0), 2);
            Check.due("row of guest 1", x.guest(1, 0, 0), 8);
            Check.due("row of guest 2 is as it was", x.guest(2, 0, 0), 1);
        }
        x.sheet(0, 0, 3);
        Check.due("as many as there are", x.read(0), 3);
        x.sheet(0, 0, 0);
        Check.due("nothing to read", x.read(0), 0);
        x.sheet(1, 1, 2);
        x.put(1, 1, 0, 4);
        x.put(1, 1, 1, 4);
        x.read(1);
        Check.due("what was read is laid by", x.lies(0, 4, 1), 1);
    }
}
