/** Promises 1 to 7: a new object, the TAPE, the four texts and their FAULTS. */
public final class TextsTest {
    private static final String THREE = "board 1 2 3;board 4 5 6;board 7 8 9;";

    public static void main(String[] args) {
        newObject();
        tape();
        takingTexts();
        rivers();
        riverFaults();
        riverLimits();
        riverStartsAnew();
        lawValues();
        lawFaults();
        works();
        workFaults();
        workLimits();
        books();
        Checks.end();
    }

    private static void newObject() {
        LiddedRiver x = new LiddedRiver();
        for (int what = 0; what <= 9; what++) {
            Checks.same("new: told(" + what + ")", x.told(what), 0);
        }
        Checks.same("new: fault()", x.fault(), -1);
        Checks.same("new: count(1)", x.count(1), 0);
        Checks.same("new: peak(1)", x.peak(1), 0);
        Checks.same("NONE", LiddedRiver.NONE, -1);
        Checks.absent("new: board(0, 0)", x, () -> x.board(0, 0));
    }

    private static void tape() {
        LiddedRiver x = new LiddedRiver();
        for (int feeds = 1; feeds <= 30; feeds++) {
            Checks.same("feed " + feeds, x.feed(0, 0, 0, 0, 0), 20 * feeds);
        }
        Checks.same("feed 31", x.feed(0, 0, 0, 0, 0), -1);
        Checks.same("count(1) behind feed 31", x.count(1), 600);
        Checks.same("river of zeros", x.river(600), -9);
        Checks.same("its place", x.fault(), 0);
        Checks.same("count(1) behind a text", x.count(1), 0);
        x.feed(0x666c6f77, 0x20333b00, 0, 0, 0);
        Checks.same("highest byte first: flow 3;", x.river(7), 0);
    }

    private static void takingTexts() {
        LiddedRiver x = Checks.of("board 1 1 1;");
        Checks.river(x, "board");
        Checks.same("place of a fault", x.fault(), 5);
        Checks.feed(x, "1234567890123456789012");
        Checks.argument("river(-1)", x, () -> x.river(-1));
        Checks.argument("river(41)", x, () -> x.river(41));
        Checks.argument("law(41)", x, () -> x.law(41));
        Checks.argument("work(41)", x, () -> x.work(41));
        Checks.argument("book(41)", x, () -> x.book(41));
        Checks.argument("book(-1)", x, () -> x.book(-1));
        Checks.same("the tape stays", x.count(1), 40);
        Checks.same("the fault stays", x.fault(), 5);
        for (int feeds = 0; feeds < 8; feeds++) {
            x.feed(0x20202020, 0x20202020, 0x20202020, 0x20202020, 0x20202020);
        }
        Checks.argument("law(151)", x, () -> x.law(151));
        Checks.argument("work(151)", x, () -> x.work(151));
        Checks.argument("book(101)", x, () -> x.book(101));
        Checks.same("law(150)", x.law(150), -8);
        Checks.same("the river stays", x.told(0), 1);
    }

    private static void rivers() {
        LiddedRiver x = Checks.of(" board 3 20 9 ;board3 0 0;board 009 00000000000020 0;barge 9 95;barge 0 0;flow 1;"
            + "flow 4;street 0 2 40;street 1 1 1;fish 1 40;fish 1 0;fish 2 7;smell 0;smell 4;  ");
        Checks.same("boards", x.told(0), 3);
        Checks.same("barges", x.told(1), 2);
        Checks.same("streets", x.told(2), 2);
        Checks.same("clear", x.board(0, 0), 3);
        Checks.same("bears", x.board(0, 1), 20);
        Checks.same("drains", x.board(0, 2), 9);
        Checks.same("word and number without a blank", x.board(1, 0), 3);
        Checks.same("zeros ahead", x.board(2, 0), 9);
        Checks.same("many zeros ahead", x.board(2, 1), 20);
        Checks.same("fish, the last counts", x.board(1, 3), 0);
        Checks.same("fish", x.board(2, 3), 7);
        Checks.same("fish without", x.board(0, 3), 0);
        Checks.same("smell, the last counts", x.smells(0, 1), 5);
        Checks.same("flow, the last counts", x.trip(0, 0, 0), 0);
        LiddedRiver y = Checks.of("board 0 0 0;board 0 0 0;board 0 0 0;board 0 0 0;board 0 0 0;");
        Checks.same("flow without", y.trip(0, 0, 0), 2);
        Checks.same("smell without", y.smells(2, 31), 6);
        Checks.same("the empty river", y.river(0), 0);
    }

    private static void river(String text, int answer, int place) {
        LiddedRiver x = Checks.of(THREE);
        Checks.same("river \"" + text + "\"", Checks.river(x, text), answer);
        Checks.same("its fault", x.fault(), place);
        Checks.same("boards behind it", x.told(0), answer < 0 ? 3 : answer);
    }

    private static void riverFaults() {
        river("", 0, -1);
        river("   ", 0, -1);
        river("x", -9, 0);
        river(";", -9, 0);
        river("Board 1 1 1;", -9, 0);
        river("boar d 1 1 1;", -9, 0);
        river("  boards 1 1 1;", -9, 2);
        river("board", -9, 5);
        river("board  ", -9, 7);
        river("board 1 1;", -9, 9);
        river("board 1 1 1", -9, 11);
        river("board 1 1 1 1;", -9, 12);
        river("board 1 1 -1;", -9, 10);
        river("board 1 1 1;;", -9, 12);
        river("board 9 20 9;", 1, -1);
        river("board 10 20 9;", -8, 6);
        river("board 9 21 9;", -8, 8);
        river("board 9 20 10;", -8, 11);
        river("board 99999999999999999999 x", -8, 6);
        river("board 4294967296 1 1;", -8, 6);
        river("barge 9 95;", 0, -1);
        river("barge 10 95;", -8, 6);
        river("barge 9 96;", -8, 8);
        river("flow 1;", 0, -1);
        river("flow 4;", 0, -1);
        river("flow 0;", -8, 5);
        river("flow 5;", -8, 5);
        river("smell 4;", 0, -1);
        river("smell 5;", -8, 6);
        river("fish 0 1;", -8, 5);
        river("fish 0 1;board 1 1 1;", -8, 5);
        river("board 1 1 1;fish 0 40;", 1, -1);
        river("board 1 1 1;fish 1 40;", -8, 17);
        river("board 1 1 1;fish 0 41;", -8, 19);
        river("board 1 1 1;street 0 0 1;", 1, -1);
        river("board 1 1 1;street 1 0 1;", -8, 19);
        river("board 1 1 1;street 0 1 1;", -8, 21);
        river("board 1 1 1;street 0 0 0;", -8, 23);
        river("board 1 1 1;street 0 0 41;", -8, 23);
        river(THREE + "street 2 1 1;", -8, THREE.length() + 9);
        river("flow " + (char) 233 + ";", -9, 5);
    }

    private static void riverLimits() {
        String board = "board 1 1 1;";
        river(board.repeat(16), 16, -1);
        river(board.repeat(17), -7, 16 * 12);
        river(board.repeat(16) + "boardx", -9, 16 * 12);
        river(board.repeat(16) + "  board x", -7, 16 * 12 + 2);
        river("barge 1 1;".repeat(4), 0, -1);
        river("barge 1 1;".repeat(5), -7, 40);
        river(board + "street 0 0 1;".repeat(8), 1, -1);
        river(board + "street 0 0 1;".repeat(9), -7, 12 + 8 * 13);
        river("flow 1;".repeat(60), 0, -1);
        river("flow 1;".repeat(61), -7, 420);
        river("flow 1;".repeat(60) + "flow 9;", -7, 420);
        river("flow 1;".repeat(60) + "flew 1;", -9, 420);
        river("flow 1;".repeat(60) + "   ", 0, -1);
    }

    private static void riverStartsAnew() {
        LiddedRiver x = Checks.of(THREE);
        Checks.law(x, "1");
        Checks.book(x, "0 1;");
        Checks.work(x, "lift 0;lift 0;hour;");
        x.image();
        Checks.same("a river with a fault", Checks.river(x, "flow 5;"), -8);
        Checks.same("changes no hour", x.told(3), 1);
        Checks.same("no law", x.lawful(0, 0, 0) ? 1 : 0, 1);
        Checks.same("no book", x.told(8), 1);
        Checks.same("no image", x.count(0), 1);
        Checks.same("no works", x.count(2), 1);
        Checks.same("no refused steps", x.told(9), 1);
        Checks.same("a river", Checks.river(x, "board 1 1 1;"), 1);
        Checks.same("hour", x.told(3), 0);
        Checks.same("law by noon", x.lawful(0, 12, 5) ? 1 : 0, 1);
        Checks.same("law by one", x.lawful(0, 13, 5) ? 1 : 0, 0);
        Checks.same("law by eleven", x.lawful(0, 11, 5) ? 1 : 0, 0);
        Checks.same("book", x.told(8), 0);
        Checks.same("images", x.count(0), 0);
        Checks.same("works", x.count(2), 0);
        Checks.same("refused steps", x.told(9), 0);
        Checks.same("fines", x.told(5), 0);
        Checks.same("mode", x.board(0, 4), 0);
        Checks.same("undo", x.undo(), -1);
        Checks.same("restore", x.restore(), -1);
    }

    /** Looks whether a text's value is above 0, and whether it is no more than 0 when 1 is taken from it. */
    private static void value(String text, int board, int hour, int day, int value) {
        LiddedRiver x = Checks.of("board 1 2 3;board 4 5 6;board 7 8 9;fish 1 30;");
        Checks.work(x, "lift 2;hour;hour;");
        Checks.law(x, "(" + text + ")-" + Math.max(0, value - 1) + (value < 1 ? "+" + (1 - value) : ""));
        Checks.same(text + " is no less than " + value, x.lawful(board, hour, day) ? 1 : 0, 1);
        Checks.law(x, "(" + text + ")-" + Math.max(0, value) + (value < 0 ? "+" + -value : ""));
        Checks.same(text + " is no more than " + value, x.lawful(board, hour, day) ? 1 : 0, 0);
    }

    private static void lawValues() {
        value("hour", 1, 23, 99, 23);
        value("day", 1, 23, 99, 99);
        value("board", 2, 0, 0, 2);
        value("clear", 1, 0, 0, 4);
        value("bears", 1, 0, 0, 5);
        value("drains", 1, 0, 0, 6);
        value("fish", 1, 0, 0, 30);
        value("fish", 2, 0, 0, 0);
        value("fined", 2, 0, 0, 2);
        value("fined", 1, 0, 0, 0);
        value("999", 0, 0, 0, 999);
        value("1+2*3", 0, 0, 0, 7);
        value("(1+2)*3", 0, 0, 0, 9);
        value("9-3-2", 0, 0, 0, 4);
        value("100/7/2", 0, 0, 0, 7);
        value("100 / (7 / 2)", 0, 0, 0, 33);
        value("17%10%4", 0, 0, 0, 3);
        value("(0-7)/2", 0, 0, 0, -3);
        value("(0-7)%3", 0, 0, 0, -1);
        value("7%(0-3)", 0, 0, 0, 1);
        value("5/0", 0, 0, 0, 0);
        value("5%0", 0, 0, 0, 0);
        value("least[3,0-4]", 0, 0, 0, -4);
        value("most [ 3 , 0 - 4 ]", 0, 0, 0, 3);
        value("least[most[1,2],3]*2", 0, 0, 0, 4);
        value("999*999*999*999/999/999", 0, 0, 0, -427);
        LiddedRiver x = Checks.of("board 1 1 1;");
        Checks.law(x, "512*512*512*16");
        Checks.same("2 to the 31 wraps below 0", x.lawful(0, 0, 0) ? 1 : 0, 0);
        Checks.law(x, "512*512*512*16/(0-1)");
        Checks.same("the least by -1 wraps to itself", x.lawful(0, 0, 0) ? 1 : 0, 0);
        Checks.law(x, "512*512*512*16-1");
        Checks.same("the least less 1 wraps above 0", x.lawful(0, 0, 0) ? 1 : 0, 1);
        Checks.law(x, "512*512*512*16%(0-1)+1");
        Checks.same("the least leaves 0 by -1", x.lawful(0, 0, 0) ? 1 : 0, 1);
    }

    private static void law(String text, int answer, int place) {
        LiddedRiver x = Checks.of(THREE);
        Checks.law(x, "hour - 5");
        Checks.same("law \"" + text + "\"", Checks.law(x, text), answer);
        Checks.same("its fault", x.fault(), place);
        if (answer != 1) {
            Checks.same("the law stays", x.opens(0), 6);
        }
    }

    private static void lawFaults() {
        law("hour", 1, -1);
        law("  hour  ", 1, -1);
        law("", -9, 0);
        law("    ", -9, 4);
        law("1 +", -9, 3);
        law("1 + ", -9, 4);
        law("-1", -9, 0);
        law("1 2", -9, 2);
        law("hour day", -9, 5);
        law("hour12", -9, 4);
        law("12hour", -9, 2);
        law("hours", -9, 0);
        law("1)", -9, 1);
        law("(1", -9, 2);
        law("()", -9, 1);
        law("least(1,2)", -9, 5);
        law("least [1;2]", -9, 8);
        law("most[1,2", -9, 8);
        law("1;", -9, 1);
        law("999", 1, -1);
        law("1000", -8, 0);
        law("1+ 1000 x", -8, 3);
        law("0001", 1, -1);
        law("((((((1))))))", 1, -1);
        law("(((((((1)))))))", -7, 6);
        law("((((((least[1,2]))))))", -7, 6);
        law("(((((( least", -7, 7);
        law("((((((lest", -9, 6);
        law("least[least[least[least[least[least[1,2],2],2],2],2],2]", 1, -1);
        law("least[least[least[least[least[least[1,(2)],2],2],2],2],2]", -7, 38);
        law("((((((1))))))+((((((1))))))", 1, -1);
        law("1+".repeat(74) + "1 ", 1, -1);
    }

    private static void works() {
        LiddedRiver x = Checks.of("board 3 0 0;board 3 0 0;");
        Checks.same("the empty work", x.work(0), 0);
        Checks.same("is a work", x.count(2), 1);
        Checks.same("lift, shut, leave", Checks.work(x, " lift 0 ; shut 1;leave 0;lift 0;"), 4);
        Checks.same("lifted", x.board(0, 4), 1);
        Checks.same("shut", x.board(1, 4), 2);
        Checks.same("what is so is refused", Checks.work(x, "lift 0;shut 1;hour;leave 1;leave 1;"), 2);
        Checks.same("three are", x.told(9), 3);
        Checks.same("left", x.board(1, 4), 0);
        Checks.same("shut ahead of lifted", Checks.work(x, "shut 0;lift 0;"), 2);
        Checks.same("none refused", x.told(9), 0);
        Checks.same("again 0", Checks.work(x, "again 0 [hour;];"), 0);
        Checks.same("again and again", Checks.work(x, "again 2 [hour;again 3 [hour;hour;];];"), 14);
        Checks.same("hours", x.told(3), 15);
        Checks.same("agains without steps", Checks.work(x, "again 60 [again 60 [];];hour;"), 1);
    }

    private static void work(String text, int answer, int place) {
        LiddedRiver x = Checks.of(THREE);
        Checks.work(x, "lift 0;lift 0;");
        Checks.same("work \"" + text + "\"", Checks.work(x, text), answer);
        Checks.same("its fault", x.fault(), place);
        if (answer < 0) {
            Checks.same("no work behind it", x.count(2), 1);
            Checks.same("no hour behind it", x.told(3), 0);
            Checks.same("refused ones behind it", x.told(9), 1);
        }
    }

    private static void workFaults() {
        work("hour;hour", -9, 9);
        work("hour;hours;", -9, 5);
        work("hour;3;", -9, 5);
        work("hour;];", -9, 5);
        work("lift;", -9, 4);
        work("lift 3;", -8, 5);
        work("leave 2;", 0, -1);
        work("again [hour;];", -9, 6);
        work("again 60 [hour;]", -9, 16);
        work("again 60 [hour]", -9, 14);
        work("again 60 [hour;;", -9, 15);
        work("again 60 [hour;", -9, 15);
        work("again 60 hour;", -9, 9);
        work("again 61 [", -8, 6);
        work("again 1[again 1[again 1[again 1[again 1[again 1[hour;];];];];];];", 1, -1);
        work("again 1[again 1[again 1[again 1[again 1[again 1[again 1[];];];];];];];", -7, 48);
        work("again 1[again 1[again 1[again 1[again 1[again 1[ again x", -7, 49);
        work("again 1[];".repeat(7), 0, -1);
    }

    private static void workLimits() {
        LiddedRiver x = Checks.of("board 3 0 0;");
        Checks.same("240 begun", Checks.work(x, "again 60 [hour;hour;hour;hour;];"), 239);
        Checks.same("the last hour", x.told(3), 239);
        Checks.same("refused ones are begun", Checks.work(x, "again 60 [leave 0;leave 0;leave 0;hour;];lift 0;"), 59);
        Checks.same("180 refused", x.told(9), 180);
        Checks.same("what comes behind is left out", x.board(0, 4), 0);
        Checks.same("no again too", Checks.work(x, "again 60 [again 3[];again 0[hour;];shut 0;leave 0;];"), 119);
        for (int more = 0; more < 3; more++) {
            Checks.work(x, "again 60 [hour;hour;hour;hour;];");
        }
        Checks.same("hour 960", x.told(3), 960);
        Checks.same("hours are refused", Checks.work(x, "hour;lift 0;hour;"), 1);
        Checks.same("two are", x.told(9), 2);
        Checks.same("hour 960 still", x.told(3), 960);
        for (int works = x.count(2); works < 16; works++) {
            Checks.same("work", x.work(0), 0);
        }
        Checks.river(x, "flow");
        Checks.same("a fault's place", x.fault(), 4);
        Checks.same("a 17th work", Checks.work(x, "hour 7"), -20);
        Checks.same("is without a fault", x.fault(), -1);
        Checks.same("the tape is empty", x.count(1), 0);
        Checks.argument("work(1) without bytes", x, () -> x.work(1));
        Checks.same("undo", x.undo(), 15);
        Checks.same("one more", x.work(0), 0);
    }

    private static void book(String text, int answer, int place) {
        LiddedRiver x = Checks.of("board 1 1 1;".repeat(14));
        Checks.book(x, "3 1;");
        Checks.same("book \"" + text + "\"", Checks.book(x, text), answer);
        Checks.same("its fault", x.fault(), place);
        Checks.same("lines", x.told(8), answer < 0 ? 1 : answer);
        Checks.same("openers by it", answer < 0 ? x.openers(0) : 2048, 2048);
    }

    private static void books() {
        book("", 0, -1);
        book(" 13 99 ; 0 0;", 2, -1);
        book("14 0;", -8, 0);
        book("0 100;", -8, 2);
        book("0;", -9, 1);
        book("0 1", -9, 3);
        book("0 1;x", -9, 4);
        book("0 1; 0 2;", -8, 5);
        book("0 1;1 1;2 1;3 1;4 1;5 1;6 1;7 1;8 1;9 1;10 1;11 1;", 12, -1);
        book("0 1;1 1;2 1;3 1;4 1;5 1;6 1;7 1;8 1;9 1;10 1;11 1;12 1;", -7, 50);
        book("0 1;1 1;2 1;3 1;4 1;5 1;6 1;7 1;8 1;9 1;10 1;11 1;11 1;", -8, 50);
        book("0 1;1 1;2 1;3 1;4 1;5 1;6 1;7 1;8 1;9 1;10 1;11 1;14 1;", -8, 50);
        book("0 1;1 1;2 1;3 1;4 1;5 1;6 1;7 1;8 1;9 1;10 1;11 1;x", -9, 50);
    }
}
