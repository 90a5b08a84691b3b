/** Sentences of promises 9 to 13: judged, lies, lifted, rows, proof. */
final class EdgesOfHall {
    private static final int NONE = ShoesHall.NONE, BAD = ShoesHall.BAD, NOT = ShoesHall.NOT;
    private static final String ALL = "abcdefghij", BACK = "jihgfedcba";

    private EdgesOfHall() {
    }

    static void all() {
        promise9();
        promise10();
        promise11();
        promise12();
        promise12Order();
        promise13();
    }

    private static void lie(ShoesHall x, int k, int row, String letters) {
        for (int i = 0; i < 10; i++) {
            int want = i < letters.length() ? letters.charAt(i) - 'a' : NONE;
            Check.due("lies(" + k + ", " + row + ", " + i + ")", x.lies(k, row, i), want);
        }
    }

    private static void promise9() {
        Edges.of(9, "JUDGED; NONE.", () -> {
            ShoesHall x = Check.hall(ALL, "");
            Check.due("all ten find room", x.judged(), NONE);
            x.set(0, 9);
            Check.due("the tenth finds none", x.judged(), 9);
            x.guest(9, 0, 1);
            Check.due("in another ROW it does", x.judged(), NONE);
            Check.due("nobody comes", new ShoesHall().judged(), NONE);
        });
        Edges.of(9, "LAID: a pair is laid in front of all that lie in its ROW", () -> {
            ShoesHall x = Check.hall("cadb", "");
            x.guest(3, 0, 4);
            lie(x, 0, 0, "cab");
            lie(x, 0, 4, "d");
        });
        Edges.of(9, "who finds a ROW full does not lay it (there is none of it then)", () -> {
            ShoesHall x = Check.hall("abcd", "cab");
            x.guest(3, 0, 9);
            x.set(0, 2);
            lie(x, 0, 0, "ab");
            lie(x, 0, 9, "d");
            Check.due("three pairs are laid", x.count(3), 3);
            Check.due("c is judged", x.judged(), 2);
            Check.due("c's pair is not lifted for a", x.lifted(0), 1);
            Check.due("nor is any for c", x.lifted(2), NOT);
            lie(x, 1, 0, "ab");
            lie(x, 3, 0, "");
            Check.due("c comes still", x.count(0), 4);
            Check.due("and goes", x.count(1), 3);
        });
        Edges.of(9, "JUDGED: the first of these, by COMINGS; NONE.", () -> {
            ShoesHall x = Check.hall("dcba", "");
            x.set(0, 1);
            Check.due("the first by COMINGS, not by letters", x.judged(), 2);
            Check.layTo(x, "0011");
            Check.due("not by ROWS", x.judged(), 2);
            Check.layTo(x, "0120");
            Check.due("the last one alone", x.judged(), 0);
            Check.layTo(x, "0123");
            Check.due("none", x.judged(), NONE);
            Check.layTo(x, "0003");
            Check.due("of two the first", x.judged(), 1);
        });
    }

    private static void promise10() {
        Edges.of(10, "LIES (i 0 to 9); NONE.", () -> {
            ShoesHall x = Check.hall(BACK, "");
            Check.layTo(x, "9999999999");
            lie(x, 0, 9, BACK);
            lie(x, 0, 0, "");
            lie(x, 0, 8, "");
            Check.due("nobody comes", new ShoesHall().lies(0, 9, 9), NONE);
        });
        Edges.of(10, "BAD.", () -> {
            Evening.bad("lies(?, 0, 0), where eight go", 0, 8, (x, v) -> x.lies(v, 0, 0));
            Evening.bad("lies(0, ?, 0)", 0, 9, (x, v) -> x.lies(0, v, 0));
            Evening.bad("lies(0, 0, ?)", 0, 9, (x, v) -> x.lies(0, 0, v));
        });
        Edges.of(10, "LIES behind k goings (0 to all): the i-th pair of a ROW, from the back on; NONE.", () -> {
            ShoesHall x = Check.hall(ALL, BACK);
            for (int k = 0; k <= 10; k++) lie(x, k, 0, ALL.substring(0, 10 - k));
            Check.due("behind eleven goings", x.lies(11, 0, 0), BAD);
            Check.type(x, 1, "ab");
            for (int k = 0; k <= 2; k++) lie(x, k, 0, ALL.substring(k));
            Check.due("behind three of two goings", x.lies(3, 0, 0), BAD);
            Check.type(x, 1, "abb");
            Check.due("behind one, where GOINGS have a fault", x.lies(1, 0, 0), BAD);
            lie(x, 0, 0, ALL);
        });
        Edges.of(10, "To take a pair all in front of it are LIFTED, and laid back as they were.", () -> {
            ShoesHall x = Check.hall("abcde", "bda");
            lie(x, 1, 0, "acde");
            lie(x, 2, 0, "ace");
            lie(x, 3, 0, "ce");
            int[] lifted = {2, 3, NOT, 1, NOT};
            for (int g = 0; g < 5; g++) Check.due("lifted for " + g, x.lifted(g), lifted[g]);
        });
    }

    private static void promise11() {
        Edges.of(11, "LIFTED for a GUEST; for all (guest = NONE).", () -> {
            ShoesHall x = Check.hall(ALL, ALL);
            for (int g = 0; g < 10; g++) Check.due("from nine to none", x.lifted(g), 9 - g);
            Check.due("all", x.lifted(NONE), 45);
            Check.type(x, 1, BACK);
            for (int g = 0; g < 10; g++) Check.due("always the front", x.lifted(g), 0);
            Check.due("none", x.lifted(NONE), 0);
        });
        Edges.of(11, "LIFTED for a GUEST: how many pairs are, when it goes (NOT: it does not go, or its pair was not laid); "
                + "for all together.", () -> {
            ShoesHall x = Check.hall("abcde", "eca");
            x.set(0, 4);
            int[] lifted = {2, NOT, 1, NOT, NOT, NOT};
            for (int g = 0; g < 6; g++) Check.due("lifted for " + g, x.lifted(g), lifted[g]);
            Check.due("together", x.lifted(NONE), 3);
            x.wipe(1);
            Check.due("nobody goes", x.lifted(NONE), 0);
            Check.type(x, 1, "e");
            Check.due("only one goes, without a pair", x.lifted(NONE), 0);
        });
        Edges.of(11, "BAD; NOT.", () -> {
            Evening.bad("lifted(?)", NONE, 9, (x, v) -> x.lifted(v));
            Evening.refuses("lifted for e, who stays", NOT, 0, x -> x.lifted(4));
            Evening.refuses("lifted for g, who found no room", NOT, 0, x -> x.lifted(6));
            Evening.refusesBehind(x -> x.undo(0), "lifted for i, who does not come", NOT, 0, x -> x.lifted(8));
        });
    }

    private static void rowsOf(ShoesHall x, String rows) {
        int fewest = 0;
        for (int g = 0; g < 10; g++) {
            boolean comes = g < rows.length() && rows.charAt(g) != '-';
            Check.due("row of " + g, x.rows(g), comes ? rows.charAt(g) - '0' : NOT);
            if (comes) fewest = Math.max(fewest, rows.charAt(g) - '0' + 1);
        }
        Check.due("the fewest", x.rows(NONE), fewest);
    }

    private static void promise12() {
        Edges.of(12, "NONE LIFTED: the fewest (guest = NONE), the ROW of a GUEST.", () -> {
            rowsOf(new ShoesHall(), "");
            rowsOf(Check.hall("j", ""), "---------0");
            rowsOf(Check.hall(ALL, ALL), "0123456789");
            rowsOf(Check.hall(ALL, BACK), "0000000000");
        });
        Edges.of(12, "NONE LIFTED: ROWS to which all that come can be laid, so that nothing is lifted: the fewest", () -> {
            ShoesHall x = Check.hall("cabd", "dcab");
            rowsOf(x, "1200");
            Check.due("in one ROW something is lifted", x.lifted(NONE), 3);
            Check.layTo(x, "1200");
            Check.due("laid so, nothing is lifted", x.lifted(NONE), 0);
        });
        Edges.of(12, "of each GUEST its ROW, if each is laid to that ROW whose front goes soonest of those that go behind it "
                + "(no two go at once), else to a new one.", () -> {
            // f; h cannot be in front of f; d to f, not to h; g and e to h; i can be in front of nobody.
            rowsOf(Check.hall("fhdgei", ""), "---010112");
            rowsOf(Check.hall("cba", "cba"), "210");
            rowsOf(Check.hall("bca", "abc"), "001");
        });
        Edges.of(12, "BAD; NOT: it does not come.", () -> {
            Evening.bad("rows(?)", NONE, 9, (x, v) -> x.rows(v));
            Evening.refusesBehind(x -> x.undo(0), "the row of i, who does not come", NOT, 0, x -> x.rows(8));
            Evening.refusesBehind(x -> x.wipe(0), "the row of a, where nobody comes", NOT, 0, x -> x.rows(0));
            Check.due("g comes, though it found no room", Evening.full(0).rows(6), 2);
            Check.due("e comes, though it stays", Evening.full(0).rows(4), 3);
        });
    }

    private static void promise12Order() {
        Edges.of(12, "ALL GO, in what follows of NONE LIFTED, LEAST, RULES: first those who go, then all others who came, "
                + "by letters", () -> {
            String[][] runs = {{"ba", "", "1"}, {"ab", "", "2"}, {"ab", "b", "1"}, {"ba", "b", "2"}, {"cba", "", "1"},
                {"cba", "c", "2"}, {"abc", "cb", "1"}, {"abc", "bc", "2"}, {"bca", "c", "2"}};
            for (String[] run : runs) {
                Check.due("rows of " + run[0] + " " + run[1], Check.hall(run[0], run[1]).rows(NONE), run[2].charAt(0) - '0');
                Check.due("as if all were told", Check.hall(run[0], allGo(run[0], run[1])).rows(NONE), run[2].charAt(0) - '0');
            }
            Check.due("LEAST: a goes ahead of b", Check.hall("ab", "").least(1, NONE), 1);
            Check.due("LEAST: b goes, then a", Check.hall("ab", "b").least(1, NONE), 0);
            Check.due("RULES: a, b, c go", Check.hall("abc", "").rule(0, 1), 3);
            Check.due("RULES: c goes, then a, b", Check.hall("abc", "c").rule(0, 1), 1);
            Check.due("PROOF: c goes, then a, b", Check.hall("cab", "c").proof(NONE), 3);
            Check.due("LIFTED: only c goes", Check.hall("abc", "c").lifted(NONE), 0);
        });
        Edges.of(12, "and ROWS are as deep as one likes.", () -> {
            ShoesHall x = Check.hall(BACK, ALL);
            x.set(0, 1);
            rowsOf(x, "0000000000");
            Check.type(x, 1, BACK);
            Check.due("RULES: all ten in a ROW", x.rule(0, 1), 45);
            Check.due("LEAST: all seven in a ROW", x.least(1, NONE), 21);
        });
    }

    private static String allGo(String comings, String goings) {
        StringBuilder all = new StringBuilder(goings);
        for (char c : ALL.toCharArray()) {
            if (comings.indexOf(c) >= 0 && goings.indexOf(c) < 0) all.append(c);
        }
        return all.toString();
    }

    private static void proofOf(ShoesHall x, String letters) {
        Check.due("how many", x.proof(NONE), letters.length());
        for (int i = 0; i < 10; i++) {
            Check.due("proof " + i, x.proof(i), i < letters.length() ? letters.charAt(i) - 'a' : NONE);
        }
    }

    private static void promise13() {
        Edges.of(13, "PROOF: how many (i = NONE), the i-th GUEST (0 to 9; NONE).", () -> {
            proofOf(new ShoesHall(), "");
            proofOf(Check.hall("j", ""), "j");
            proofOf(Check.hall(ALL, ALL), ALL);
            proofOf(Check.hall(BACK, BACK), BACK);
            proofOf(Check.hall(BACK, ALL), "a");
        });
        Edges.of(13, "PROOF: the longest row of GUESTS each of whom comes and goes behind the one ahead, of like ones the least "
                + "letters: how many; the i-th.", () -> {
            proofOf(Check.hall("badc", "abcd"), "ac");
            proofOf(Check.hall("cdab", "abcd"), "ab");
            proofOf(Check.hall("bcda", "abcd"), "bcd");
            proofOf(Check.hall("cabed", "cabed"), "cabed");
            // The first letter decides ahead of the second: a d, not b c.
            proofOf(Check.hall("bcad", "adbc"), "ad");
            // All rows begin with a; the least second letter comes last.
            proofOf(Check.hall("adcb", "abcd"), "ab");
            proofOf(Check.hall("adcfe", "acdef"), "ace");
        });
        Edges.of(13, "(They are as many as the fewest ROWS.)", () -> {
            String[] orders = {"abcde", "bdace", "edcba", "caebd", "ebdac", "ceadb"};
            for (String comings : orders) {
                for (String goings : orders) {
                    for (int told = 0; told <= 5; told++) {
                        ShoesHall x = Check.hall(comings, goings.substring(0, told));
                        Check.due("as many", x.proof(NONE), x.rows(NONE));
                    }
                }
            }
        });
        Edges.of(13, "BAD.", () -> Evening.bad("proof(?)", NONE, 9, (x, v) -> x.proof(v)));
    }
}
