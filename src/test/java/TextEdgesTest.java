/**
 * The edges of the texts ("Terms", promises 2 to 7): of each number the least, the greatest and the next one beyond; the
 * shortest and the longest text; as much as fits and one more; signs next to those that may stand there; FAULTS.
 */
public final class TextEdgesTest {
    private static final String THREE = "board 1 2 3;board 4 5 6;board 7 8 9;";

    public static void main(String[] args) {
        tapeIsFull();
        tapeHighestFirst();
        firstBytesAlone();
        riverLengths();
        lawLengths();
        workLengths();
        bookLengths();
        riverNumbers();
        lawNumbers();
        workNumbers();
        bookNumbers();
        lastOneCounts();
        toldAhead();
        sixtyClauses();
        sixteenBoards();
        fourBarges();
        eightStreets();
        allThatFits();
        twelveLines();
        sixOpen();
        signsNextToDigits();
        signsNextToLetters();
        blanks();
        endsTooEarly();
        firstFromTheLeft();
        ofOneTheLeast();
        placeOfTheLatest();
        Checks.end();
    }

    // ---- the tape

    /** "how many there are; NONE, doing nothing, if there would be more than 600". */
    private static void tapeIsFull() {
        LiddedRiver x = new LiddedRiver();
        Checks.same("the first feed", x.feed(0, 0, 0, 0, 0), 20);
        for (int bytes = 40; bytes <= 600; bytes += 20) {
            Checks.same("feed up to " + bytes, x.feed(0x20202020, 0x20202020, 0x20202020, 0x20202020, 0x20202020), bytes);
        }
        Checks.same("a feed beyond 600", x.feed(0, 0, 0, 0, 0), -1);
        Checks.same("and one more", x.feed(0, 0, 0, 0, 0), -1);
        Checks.same("bytes", x.count(1), 600);
        Checks.argument("river(601) of 600", x, () -> x.river(601));
        Checks.same("they stay", x.count(1), 600);
        Checks.same("river(600) of 600", x.river(600), -9);
        Checks.same("bytes behind it", x.count(1), 0);
        Checks.same("it takes bytes again", x.feed(0, 0, 0, 0, 0), 20);
    }

    /** "of each number the highest first". */
    private static void tapeHighestFirst() {
        LiddedRiver x = new LiddedRiver();
        x.feed(0x626f6172, 0x64203920, 0x32302030, 0x3b666c6f, 0x7720343b);
        Checks.same("board 9 20 0;flow 4;", x.river(20), 1);
        Checks.same("bears", x.board(0, 1), 20);
        x.feed(0x20202020, 0x20202020, 0x202020ff, 0, 0);
        Checks.same("byte 255", x.river(12), -9);
        Checks.same("its place", x.fault(), 11);
        x.feed(0x80000000, 0, 0, 0, 0);
        Checks.same("byte 128", x.river(1), -9);
    }

    /** "The first n bytes of the TAPE (empty then)": none behind them is read. */
    private static void firstBytesAlone() {
        LiddedRiver x = Checks.of(THREE);
        Checks.feed(x, "hour - 12");
        Checks.same("hour - 1", x.law(8), 1);
        Checks.same("opens by it", x.opens(0), 2);
        Checks.feed(x, "hour - 12");
        Checks.same("hour of hour - 12", x.law(4), 1);
        Checks.feed(x, "hour - 12");
        Checks.same("hou of hour", x.law(3), -9);
        Checks.same("its place", x.fault(), 0);
        Checks.feed(x, "hour - 12");
        Checks.same("hour and a blank", x.law(5), 1);
        Checks.feed(x, "hour - 12");
        Checks.same("hour -", x.law(6), -9);
        Checks.same("at the length", x.fault(), 6);
        Checks.feed(x, "lift 2;hour;");
        Checks.same("lift 2;", x.work(7), 1);
        Checks.feed(x, "lift 2;hour;");
        Checks.same("lift 2", x.work(6), -9);
        Checks.same("at the length", x.fault(), 6);
        Checks.feed(x, "0 12;1 1;");
        Checks.same("0 12;", x.book(5), 1);
        Checks.feed(x, "board 1 1 1;board 1 1 1;");
        Checks.same("the first clause", x.river(12), 1);
        Checks.same("the others are gone", x.count(1), 0);
        Checks.feed(x, "board 1 1 1;");
        Checks.same("none", x.river(0), 0);
        Checks.same("the tape is empty", x.count(1), 0);
    }

    // ---- lengths

    private static String filled(String text, int length) {
        return text + " ".repeat(length - text.length());
    }

    /** "A RIVER is a text of up to 600 bytes"; "n is not 0 to the TAPE's bytes (it stays)". */
    private static void riverLengths() {
        LiddedRiver x = Checks.of(THREE);
        Checks.same("600 bytes", Checks.river(x, filled("board 1 1 1;", 588) + "board 2 2 2;"), 2);
        Checks.same("600 blanks", Checks.river(x, " ".repeat(600)), 0);
        Checks.same("600 bytes that end too early", Checks.river(x, filled("board 1 1 1", 600)), -9);
        Checks.same("at the length", x.fault(), 600);
        for (String last : new String[] {"boar", "stree", "flow", "fish 0", "flow 1", "1"}) {
            String text = filled("board 1 1 1;", 600 - last.length()) + last;
            boolean isWord = last.equals("boar") || last.equals("stree") || last.equals("1");
            Checks.same("600 bytes that end by " + last, Checks.river(x, text), -9);
            Checks.same("its place", x.fault(), isWord ? 600 - last.length() : 600);
        }
        Checks.argument("one more than none", x, () -> x.river(1));
        Checks.same("none of none", x.river(0), 0);
        Checks.feed(x, "flow 1;");
        Checks.argument("one more than the tape's", x, () -> x.river(21));
        Checks.argument("one less than none", x, () -> x.river(-1));
        Checks.argument("the least", x, () -> x.river(Integer.MIN_VALUE));
        Checks.argument("the greatest", x, () -> x.river(Integer.MAX_VALUE));
        Checks.same("the tape stays", x.count(1), 20);
        Checks.same("its text too", x.river(7), 0);
    }

    /** A text of n bytes that is right, and one byte more than that kind may have, with enough on the tape. */
    private static void lengths(String kind, String longest, int answer, int most) {
        LiddedRiver x = Checks.of(THREE);
        Checks.same(kind + " of " + longest.length() + " bytes is as long as can be", longest.length(), most);
        Checks.feed(x, longest + " ".repeat(30));
        int bytes = x.count(1);
        int beyond = most + 1;
        Checks.argument(kind + "(" + beyond + ")", x, () -> take(x, kind, beyond));
        Checks.argument(kind + "(the tape's)", x, () -> take(x, kind, bytes));
        Checks.argument(kind + "(-1)", x, () -> take(x, kind, -1));
        Checks.same("the tape stays", x.count(1), bytes);
        Checks.same(kind + " of all its bytes", take(x, kind, most), answer);
        Checks.same("the tape is empty", x.count(1), 0);
        Checks.argument(kind + " of one byte where none is", x, () -> take(x, kind, 1));
        x.feed(0, 0, 0, 0, 0);
        Checks.argument(kind + " of 21 where 20 are", x, () -> take(x, kind, 21));
        Checks.same(kind + " of 20 zeros", take(x, kind, 20), -9);
    }

    private static int take(LiddedRiver x, String kind, int n) {
        switch (kind) {
            case "law": return x.law(n);
            case "work": return x.work(n);
            default: return x.book(n);
        }
    }

    /** "A LAW is a text of up to 150 bytes"; it is no empty one. */
    private static void lawLengths() {
        lengths("law", "0+".repeat(74) + "12", 1, 150);
        LiddedRiver x = Checks.of(THREE);
        Checks.same("of 150 bytes, all are read", Checks.law(x, "0+".repeat(73) + "hour"), 1);
        Checks.same("so it opens", x.opens(0), 1);
        Checks.same("of none", x.law(0), -9);
        Checks.same("at the length", x.fault(), 0);
        Checks.same("of one", Checks.law(x, "1"), 1);
        Checks.same("150 blanks", Checks.law(x, " ".repeat(150)), -9);
        Checks.same("at the length", x.fault(), 150);
        Checks.same("150 bytes that end too early", Checks.law(x, "1+".repeat(75)), -9);
        Checks.same("at the length", x.fault(), 150);
        Checks.same("the longest product", Checks.law(x, "1*".repeat(74) + "1 "), 1);
        Checks.same("it opens", x.opens(0), 0);
        Checks.same("the longest row of differences", Checks.law(x, "75" + "-1".repeat(74)), 1);
        Checks.same("1 is left", x.opens(0), 0);
    }

    /** "WORK is a text of up to 150 bytes"; the empty one is a WORK. */
    private static void workLengths() {
        lengths("work", "hour;".repeat(30), 30, 150);
        LiddedRiver x = Checks.of(THREE);
        Checks.same("of none", x.work(0), 0);
        Checks.same("is a work", x.count(2), 1);
        Checks.same("150 blanks", Checks.work(x, " ".repeat(150)), 0);
        Checks.same("is a work", x.count(2), 2);
        Checks.same("150 bytes that end too early", Checks.work(x, "hour;".repeat(29) + "hour "), -9);
        Checks.same("at the length", x.fault(), 150);
        Checks.same("is none", x.count(2), 2);
        Checks.same("as many as fit", Checks.work(x, "again 0[];".repeat(15)), 0);
    }

    /** "A BOOK is a text of up to 100 bytes"; the empty one has no lines. */
    private static void bookLengths() {
        lengths("book", filled("0 12;1 12; 2 12;", 99) + " ", 3, 100);
        LiddedRiver x = Checks.of(THREE);
        Checks.same("of 100 bytes, all are read", Checks.book(x, filled("0 1;", 94) + "2 0099"), -9);
        Checks.same("at the length", x.fault(), 100);
        Checks.same("of 100 bytes", Checks.book(x, filled("0 1;", 95) + "2 99;"), 2);
        Checks.same("of none", x.book(0), 0);
        Checks.same("no lines", x.told(8), 0);
        Checks.same("100 blanks", Checks.book(x, " ".repeat(100)), 0);
    }

    // ---- numbers

    /** From the least to the greatest all are read; what is below, above or far above is none such, at its first byte. */
    private static void numbers(String kind, String ahead, String behind, int least, int most) {
        for (int n = least; n <= most; n++) {
            fault(kind, ahead + n + behind, -1, -1);
        }
        fault(kind, ahead + "000" + least + behind, -1, -1);
        fault(kind, ahead + "0000000000000" + most + behind, -1, -1);
        if (least > 0) {
            fault(kind, ahead + (least - 1) + behind, -8, ahead.length());
        }
        fault(kind, ahead + (most + 1) + behind, -8, ahead.length());
        fault(kind, ahead + "00" + (most + 1) + behind, -8, ahead.length());
        fault(kind, ahead + " " + (most + 1) + behind, -8, ahead.length() + 1);
        for (long wrap : new long[] {1L << 8, 1L << 16, 1L << 31, 1L << 32, 1L << 62}) {
            if (wrap + least > most) {
                fault(kind, ahead + (wrap + least) + behind, -8, ahead.length());
            }
        }
        fault(kind, ahead + "18446744073709551617" + behind, -8, ahead.length());
        fault(kind, ahead + "-" + least + behind, -9, ahead.length());
        fault(kind, ahead + "+" + least + behind, -9, ahead.length());
        fault(kind, ahead + "x" + behind, -9, ahead.length());
    }

    /** A FAULT, or none (-1); on a river of three boards. */
    private static void fault(String kind, String text, int answer, int place) {
        LiddedRiver x = Checks.of(THREE);
        int got = Checks.text(x, kind, text);
        Checks.same(kind + " \"" + text + "\"", got < 0 ? got : -1, answer);
        Checks.same("the place in " + kind + " \"" + text + "\"", x.fault(), place);
    }

    /** "CLEAR C, 0 to 9, BEARS B, 0 to 20, DRAINS D, 0 to 9" and the others of a RIVER. */
    private static void riverNumbers() {
        numbers("river", "board ", " 0 0;", 0, 9);
        numbers("river", "board 0 ", " 0;", 0, 20);
        numbers("river", "board 0 0 ", ";", 0, 9);
        numbers("river", "barge ", " 0;", 0, 9);
        numbers("river", "barge 0 ", ";", 0, 95);
        numbers("river", "flow ", ";", 1, 4);
        numbers("river", THREE + "street ", " 2 1;", 0, 2);
        numbers("river", THREE + "street 0 ", " 1;", 0, 2);
        numbers("river", THREE + "street 1 ", " 1;", 1, 2);
        numbers("river", THREE + "street 2 ", " 1;", 2, 2);
        numbers("river", THREE + "street 0 0 ", ";", 1, 40);
        numbers("river", THREE + "fish ", " 0;", 0, 2);
        numbers("river", THREE + "fish 0 ", ";", 0, 40);
        numbers("river", "smell ", ";", 0, 4);
        LiddedRiver x = Checks.of("board 0 0 0;board 9 20 9;barge 0 0;barge 9 95;street 0 0 1;street 0 1 40;fish 1 40;");
        int[][] boards = {{0, 0, 0, 0}, {9, 20, 9, 40}};
        int[][] barges = {{0, 0}, {9, 95}};
        int[][] streets = {{0, 0, 1}, {0, 1, 40}};
        for (int i = 0; i < 2; i++) {
            for (int what = 0; what < 4; what++) {
                Checks.same("board(" + i + ", " + what + ")", x.board(i, what), boards[i][what]);
            }
            for (int what = 0; what < 2; what++) {
                Checks.same("barge(" + i + ", " + what + ")", x.barge(i, what), barges[i][what]);
            }
            for (int what = 0; what < 3; what++) {
                Checks.same("street(" + i + ", " + what + ")", x.street(i, what), streets[i][what]);
            }
        }
    }

    /** "N (0 to 999)". */
    private static void lawNumbers() {
        numbers("law", "hour - ", "", 0, 999);
        numbers("law", "least[ 1,", "]", 0, 999);
        LiddedRiver x = Checks.of(THREE);
        Checks.law(x, "999 - 998");
        Checks.same("999", x.opens(0), 0);
        Checks.law(x, "0");
        Checks.same("0", x.opens(0), -1);
    }

    /** "lift" B, "shut" B, "leave" B of a BOARD that is there; "again" N (0 to 60). */
    private static void workNumbers() {
        numbers("work", "lift ", ";", 0, 2);
        numbers("work", "shut ", ";", 0, 2);
        numbers("work", "leave ", ";", 0, 2);
        numbers("work", "again ", " [hour;];", 0, 60);
        LiddedRiver x = Checks.of("");
        Checks.same("lift 0 without boards", Checks.work(x, "lift 0;"), -8);
        Checks.same("hour without boards", Checks.work(x, "hour;"), 1);
        Checks.same("again 60", Checks.work(x, "again 60 [hour;];"), 60);
        Checks.same("again 1", Checks.work(x, "again 1 [hour;];"), 1);
        Checks.same("again 0", Checks.work(x, "again 0 [hour;];"), 0);
        LiddedRiver full = Checks.of("board 1 1 1;".repeat(16));
        Checks.same("the last of 16", Checks.work(full, "lift 15;shut 15;leave 15;"), 3);
        Checks.same("one beyond", Checks.work(full, "lift 16;"), -8);
    }

    /** "at BOARD B, there is such a one, it smelt by N (0 to 99)". */
    private static void bookNumbers() {
        numbers("book", "", " 0;", 0, 2);
        numbers("book", "1 1;", " 0;", 2, 2);
        numbers("book", "0 ", ";", 0, 99);
        LiddedRiver x = Checks.of("");
        Checks.same("board 0 without boards", Checks.book(x, "0 0;"), -8);
        LiddedRiver full = Checks.of("board 1 1 1;".repeat(16));
        Checks.same("the last of 16", Checks.book(full, "15 1;"), 1);
        Checks.same("one beyond", Checks.book(full, "16 1;"), -8);
    }

    /** "flow V (1 to 4; 2 without; the last counts)", fish and smell likewise. */
    private static void lastOneCounts() {
        String nine = "board 0 0 0;".repeat(9);
        int[] hours = {8, 4, 2, 2};
        Checks.same("flow without", Checks.of(nine).trip(0, 0, 0), 4);
        for (int v = 1; v <= 4; v++) {
            Checks.same("flow " + v, Checks.of("flow 3;" + nine + "flow " + v + ";").trip(0, 0, 0), hours[v - 1]);
        }
        Checks.same("flow 4 is four boards", Checks.of(nine.substring(12) + "flow 4;").trip(0, 0, 0), 1);
        Checks.same("smell without", Checks.of(nine).smells(8, 511), 6);
        int[] smells = {1, 3, 6, 10, 15};
        for (int k = 0; k <= 4; k++) {
            Checks.same("smell " + k, Checks.of("smell 3;" + nine + "smell " + k + ";").smells(8, 511), smells[k]);
        }
        Checks.same("fish without", Checks.of(nine).board(8, 3), 0);
        Checks.same("fish, the last", Checks.of(nine + "fish 8 40;fish 7 1;fish 8 0;").board(8, 3), 0);
        Checks.same("fish, the last", Checks.of(nine + "fish 8 0;fish 8 40;").board(8, 3), 40);
    }

    /** "of BOARDS F to T, both told ahead, T no less than F"; "at BOARD B, told ahead". */
    private static void toldAhead() {
        fault("river", "street 0 0 1;board 1 1 1;", -8, 7);
        fault("river", "board 1 1 1;street 1 1 1;board 1 1 1;", -8, 19);
        fault("river", "board 1 1 1;street 0 1 1;board 1 1 1;", -8, 21);
        fault("river", "board 1 1 1;board 1 1 1;street 0 1 1;", -1, -1);
        fault("river", "board 1 1 1;board 1 1 1;street 1 0 1;", -8, 33);
        fault("river", "fish 0 1;board 1 1 1;", -8, 5);
        fault("river", "board 1 1 1;fish 1 1;board 1 1 1;", -8, 17);
        fault("river", "board 1 1 1;fish 0 1;board 1 1 1;", -1, -1);
    }

    // ---- as much as fits

    /** "{ CLAUSE ";" }, at most 60"; one too many at its word. */
    private static void sixtyClauses() {
        fault("river", "smell 1;".repeat(60), -1, -1);
        fault("river", "smell 1;".repeat(61), -7, 480);
        fault("river", "smell 1;".repeat(60) + "   smell 1;", -7, 483);
        fault("river", "smell 1;".repeat(60) + "board", -7, 480);
        fault("river", "smell 1;".repeat(60) + "s", -9, 480);
        fault("river", "smell 1;".repeat(60) + ";", -9, 480);
        fault("river", "smell 1;".repeat(59) + "board 1 1 1;", -1, -1);
        fault("river", "smell 1;".repeat(59) + "board 1 1 1;flow 1;", -7, 59 * 8 + 12);
    }

    /** "BOARDS, numbered downstream from 0 on, 16 at most". */
    private static void sixteenBoards() {
        String fifteen = "board 1 1 1;".repeat(15);
        LiddedRiver x = Checks.of(fifteen + "board 2 3 4;");
        Checks.same("sixteen", x.told(0), 16);
        Checks.same("the last one", x.board(15, 0) * 100 + x.board(15, 1) * 10 + x.board(15, 2), 234);
        Checks.same("one more", Checks.river(x, fifteen + "board 1 1 1;flow 1; board 9 9 9;"), -7);
        Checks.same("at its word", x.fault(), 16 * 12 + 8);
        Checks.same("all stays", x.board(15, 2), 4);
    }

    /** "BARGES likewise, 4". */
    private static void fourBarges() {
        LiddedRiver x = Checks.of("barge 1 1;barge 2 2;barge 3 3;barge 4 5;");
        Checks.same("four", x.told(1), 4);
        Checks.same("the last one", x.barge(3, 0) * 10 + x.barge(3, 1), 45);
        Checks.same("one more", Checks.river(x, "barge 1 1;".repeat(4) + "board 1 1 1;  barge 10 99;"), -7);
        Checks.same("at its word", x.fault(), 54);
        Checks.same("all stays", x.told(0), 0);
    }

    /** "STREETS likewise, 8". */
    private static void eightStreets() {
        LiddedRiver x = Checks.of(THREE + "street 0 0 1;".repeat(7) + "street 1 2 3;");
        Checks.same("eight", x.told(2), 8);
        Checks.same("the last one", x.street(7, 0) * 100 + x.street(7, 1) * 10 + x.street(7, 2), 123);
        Checks.same("one more", Checks.river(x, THREE + "street 0 0 1;".repeat(8) + "street 9 9 9;"), -7);
        Checks.same("at its word", x.fault(), 36 + 104);
        Checks.same("all stays", x.told(2), 8);
    }

    /** Sixteen boards, four barges, eight streets, sixty clauses and six hundred bytes at once. */
    private static void allThatFits() {
        String full = "board 9 20 9;".repeat(16) + "barge 9 95;".repeat(4) + "street 0 15 40;".repeat(8) + "flow 1;".repeat(32);
        LiddedRiver x = Checks.of(filled(full, 600));
        Checks.same("boards", x.told(0), 16);
        Checks.same("barges", x.told(1), 4);
        Checks.same("streets", x.told(2), 8);
        Checks.same("all streets by the fewest", x.flood(255), 31);
        Checks.same("the tallest mast", x.trip(9, 48, 0), 63);
        Checks.same("a 61st clause", Checks.river(x, full + "flow"), -7);
        Checks.same("at its word", x.fault(), 596);
    }

    /** "12 lines at most, no B twice"; one too many at its B. */
    private static void twelveLines() {
        String twelve = "0 1;1 1;2 1;3 1;4 1;5 1;6 1;7 1;8 1;9 1;10 1;11 1;";
        LiddedRiver x = Checks.of("board 1 1 1;".repeat(16));
        Checks.same("twelve", Checks.book(x, twelve), 12);
        Checks.same("told", x.told(8), 12);
        Checks.same("twelve and blanks", Checks.book(x, filled(twelve, 100)), 12);
        Checks.same("one more", Checks.book(x, twelve + " 12 1;"), -7);
        Checks.same("at its B", x.fault(), twelve.length() + 1);
        Checks.same("one more, that ends there", Checks.book(x, twelve + "12"), -7);
        Checks.same("at its B", x.fault(), twelve.length());
        Checks.same("the lines stay", x.told(8), 12);
        Checks.same("one twice", Checks.book(x, "15 1;3 1; 15 1;"), -8);
        Checks.same("at its B", x.fault(), 10);
        Checks.same("one twice, told otherwise", Checks.book(x, "5 1;0005 1;"), -8);
        Checks.same("at its B", x.fault(), 4);
    }

    /** "a 7th of ( least most again that is open at one time". */
    private static void sixOpen() {
        fault("law", "((((((1))))))", -1, -1);
        fault("law", "(((((((1)))))))", -7, 6);
        fault("law", "most[".repeat(6) + "1" + ",1]".repeat(6), -1, -1);
        fault("law", "most[".repeat(7) + "1" + ",1]".repeat(7), -7, 30);
        fault("law", "least[1,".repeat(6) + "1" + "]".repeat(6), -1, -1);
        fault("law", "least[1,".repeat(6) + " least[1,1" + "]".repeat(7), -7, 49);
        fault("law", "(least[1,(most[1,(least[1,2])])])", -1, -1);
        fault("law", "(least[1,(most[1,(least[1,most])])])", -7, 26);
        fault("law", "(least[1,(most[1,(least[(1),most])])])", -7, 24);
        fault("law", "((((((1))))))-((((((2))))))", -1, -1);
        fault("law", "((((((1)))))-(((((2))))))", -1, -1);
        fault("law", "((((((1)))))-((((((2)))))))", -7, 18);
        fault("law", "least[((((1)))),((((((1))))))]", -7, 21);
        fault("work", "again 1[".repeat(6) + "hour;" + "];".repeat(6), -1, -1);
        fault("work", "again 1[".repeat(7) + "hour;" + "];".repeat(7), -7, 48);
        fault("work", "again 1[".repeat(6) + "]; again 1[];" + "];".repeat(5), -1, -1);
        fault("work", "again 1[".repeat(6) + "]; again 1[ again" + "];".repeat(5), -7, 60);
        fault("work", "again 0[".repeat(6) + "hour; again", -7, 54);
    }

    // ---- signs

    /** "Numbers: digits, as many as stand there": / and : stand next to them. */
    private static void signsNextToDigits() {
        fault("river", "board 0 0 0/", -9, 11);
        fault("river", "board 0 0 0:", -9, 11);
        fault("river", "board / 0 0;", -9, 6);
        fault("river", "board : 0 0;", -9, 6);
        fault("law", ":", -9, 0);
        fault("law", "/", -9, 0);
        fault("law", "9:", -9, 1);
        fault("law", "9/9", -1, -1);
        fault("book", "0 0:", -9, 3);
        fault("river", "flow 1.0;", -9, 6);
        fault("river", "flow 0x1;", -8, 5);
        fault("river", "flow 1e0;", -9, 6);
    }

    /** "WORDS: small letters, as many as stand there": ` and { stand next to them, and capital ones far off. */
    private static void signsNextToLetters() {
        fault("river", "boardz 1 1 1;", -9, 0);
        fault("river", "boarda 1 1 1;", -9, 0);
        fault("river", "board` 1 1 1;", -9, 5);
        fault("river", "board{ 1 1 1;", -9, 5);
        fault("river", "boardA 1 1 1;", -9, 5);
        fault("river", "BOARD 1 1 1;", -9, 0);
        fault("river", "zoard 1 1 1;", -9, 0);
        fault("river", "aboard 1 1 1;", -9, 0);
        fault("river", "boar 1 1 1;", -9, 0);
        fault("river", "oard 1 1 1;", -9, 0);
        fault("river", "boardbarge 1 1;", -9, 0);
        fault("river", "board barge 1 1;", -9, 6);
        fault("law", "hourday", -9, 0);
        fault("law", "leastmost[1,1]", -9, 0);
        fault("law", "lift", -9, 0);
        fault("work", "houra;", -9, 0);
        fault("work", "hour`;", -9, 4);
        fault("work", "board;", -9, 0);
        fault("river", "hour;", -9, 0);
        fault("book", "a 1;", -9, 0);
    }

    /** "blanks (32) may stand ahead of all these, and at the end": no other sign is a blank. */
    private static void blanks() {
        fault("river", "  board   1  1   1   ;   flow  1  ;  ", -1, -1);
        fault("law", "  least  [  hour  ,  (  1  +  2  )  ]  *  3  ", -1, -1);
        fault("work", "  again  2  [  hour  ;  lift  0  ;  ]  ;  ", -1, -1);
        fault("book", "  0  1  ;  1  1  ;  ", -1, -1);
        fault("river", "board1 1 1;flow1;", -1, -1);
        fault("work", "again2[lift0;];", -1, -1);
        for (int sign : new int[] {0, 9, 10, 13, 31, 33, 127, 128, 160, 255}) {
            fault("river", (char) sign + "flow 1;", -9, 0);
            fault("river", "flow" + (char) sign + "1;", -9, 4);
            fault("river", "flow 1" + (char) sign + ";", -9, 6);
            fault("river", "flow 1;" + (char) sign, -9, 7);
            fault("law", "1" + (char) sign, -9, 1);
            fault("work", "hour;" + (char) sign, -9, 5);
            fault("book", "0 0;" + (char) sign, -9, 4);
        }
        fault("river", "board 11 1;", -8, 6);
        fault("river", "board 1 11;", -9, 10);
    }

    // ---- faults

    /** "at the length, if the text ends too early"; a word that is cut short is none, at its first byte. */
    private static void endsTooEarly() {
        cutShort("river", "board 1 20 3;  barge 9 95 ; flow 4; street 0 0 40; fish 0 40; smell 4;");
        cutShort("law", " least [ hour , most [ 12 , ( day ) ] ]");
        cutShort("work", "lift 0; again 12 [ shut 1; hour ; leave 2; ] ; ");
        cutShort("book", "0 12; 1 99 ; 2 0;");
    }

    private static void cutShort(String kind, String text) {
        String behind = text.trim();
        for (int length = 1; length < behind.length(); length++) {
            String cut = text.substring(0, length);
            String left = cut.trim();
            boolean isWhole = !kind.equals("law") && (left.isEmpty() || left.endsWith(";") && !cut.contains("["));
            int word = length;
            while (word > 0 && Character.isLetter(cut.charAt(word - 1))) {
                word--;
            }
            boolean isWordCut = word < length && Character.isLetter(text.charAt(length));
            fault(kind, cut, isWhole ? -1 : -9, isWhole ? -1 : isWordCut ? word : length);
        }
        fault(kind, text, -1, -1);
    }

    /** "FAULTS, the first from the left, at its first byte". */
    private static void firstFromTheLeft() {
        fault("river", "board 10 21 10;x", -8, 6);
        fault("river", "board 1 x 10;", -9, 8);
        fault("river", "flow 9 9;", -8, 5);
        fault("river", "board 1 1 1;".repeat(16) + "flow 9;board 1 1 1;", -8, 197);
        fault("river", "board 1 1 1;".repeat(17) + "flow 9;", -7, 192);
        fault("river", "street 0 0 41;", -8, 7);
        fault("river", THREE + "street 2 1 41;", -8, 45);
        fault("law", "1000 + hours", -8, 0);
        fault("law", "hours + 1000", -9, 0);
        fault("law", "((((((1000(", -8, 6);
        fault("law", "(((((((1000", -7, 6);
        fault("law", "((((((1(", -9, 7);
        fault("work", "lift 3;hours;", -8, 5);
        fault("work", "hours;lift 3;", -9, 0);
        fault("work", "again 61 hour;", -8, 6);
        fault("work", "again 60 hour;", -9, 9);
        fault("book", "0 100;0 1;", -8, 2);
        fault("book", "0 1;0 100;", -8, 4);
        fault("book", "3 x;", -8, 0);
    }

    /** "of one the least": what can't stand there, ahead of a number that is none such, ahead of one too many. */
    private static void ofOneTheLeast() {
        String twelve = "0 1;1 1;2 1;3 1;4 1;5 1;6 1;7 1;8 1;9 1;10 1;11 1;";
        String[] thirteenth = {"x", "-1 1;", "11 1;", "0 1;", "16 1;", "12 1;"};
        int[] due = {-9, -9, -8, -8, -8, -7};
        for (int i = 0; i < due.length; i++) {
            LiddedRiver x = Checks.of("board 1 1 1;".repeat(16));
            Checks.same("a 13th line " + thirteenth[i], Checks.book(x, twelve + thirteenth[i]), due[i]);
            Checks.same("at its B", x.fault(), twelve.length());
        }
        fault("river", "flow 1;".repeat(60) + "flows 1;", -9, 420);
        fault("river", "flow 1;".repeat(60) + "1;", -9, 420);
        fault("river", "flow 1;".repeat(60) + "flow 9;", -7, 420);
        fault("law", "((((((mist[1,2]", -9, 6);
        fault("law", "((((((most", -7, 6);
        fault("work", "again 1[".repeat(6) + "against", -9, 48);
        fault("work", "again 1[".repeat(6) + "again 61", -7, 48);
    }

    /** "The place of the FAULT of the latest text; NONE without". */
    private static void placeOfTheLatest() {
        LiddedRiver x = new LiddedRiver();
        Checks.same("no text yet", x.fault(), -1);
        x.law(0);
        Checks.same("at 0", x.fault(), 0);
        Checks.argument("no text", x, () -> x.law(1));
        Checks.same("still at 0", x.fault(), 0);
        Checks.river(x, "flow 5;");
        Checks.same("at 5", x.fault(), 5);
        x.work(0);
        Checks.same("without", x.fault(), -1);
        Checks.book(x, "0 0;");
        Checks.same("at 0", x.fault(), 0);
        x.book(0);
        Checks.same("without", x.fault(), -1);
        Checks.work(x, "hour");
        Checks.same("at 4", x.fault(), 4);
        Checks.law(x, "1");
        Checks.same("without", x.fault(), -1);
        Checks.law(x, "(1");
        Checks.same("at 2", x.fault(), 2);
        x.river(0);
        Checks.same("without", x.fault(), -1);
    }
}
