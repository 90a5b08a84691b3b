/** Counts the answers that are not as due, and helps tests to set up a hall. */
final class Check {
    static final long LONG_BAD = Long.MIN_VALUE + 2;
    private static int calls = 0;
    private static int wrong = 0;
    private static String about = "";

    private Check() {
    }

    /** What the answers from here on are about; told with each that is not as due. */
    static void about(String what) {
        about = what;
    }

    static int calls() {
        return calls;
    }

    static void due(String call, long got, long want) {
        calls++;
        if (got != want) {
            wrong++;
            System.out.println(about + call + " answered " + got + ", due is " + want);
        }
    }

    static void due(String call, String got, String want) {
        calls++;
        if (!got.equals(want)) {
            wrong++;
            System.out.println(about + call + " answered\n  " + got + ", due is\n  " + want);
        }
    }

    static void type(ShoesHall x, int text, String letters) {
        x.wipe(text);
        for (int i = 0; i < letters.length(); i++) {
            due("type " + letters + " " + i, x.type(text, letters.charAt(i)), i + 1);
        }
    }

    static ShoesHall hall(String comings, String goings) {
        ShoesHall x = new ShoesHall();
        type(x, 0, comings);
        type(x, 1, goings);
        return x;
    }

    /** Rows of guests 0 on, a digit each. */
    static void layTo(ShoesHall x, String rows) {
        for (int i = 0; i < rows.length(); i++) {
            x.guest(i, 0, rows.charAt(i) - '0');
        }
    }

    static void end(String test) {
        System.out.println(test + ": " + calls + " answers, " + wrong + " not as due");
        if (wrong != 0) {
            System.exit(1);
        }
    }
}
