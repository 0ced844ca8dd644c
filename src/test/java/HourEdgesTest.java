/**
 * The edges of HOURS (the document's parts 2 and 3, promises 5, 13 to 21, 31, 34 to 36): the first and the last that is
 * done or looked at, the wrap of the day, the 240th STEP, just low enough masts, just as many boards as flow by.
 */
public final class HourEdgesTest {
    private static final String SIXTEEN = "board 0 0 0;".repeat(16);
    private static final String FOUR_A_TURN = "again 60 [hour;hour;hour;hour;];";

    public static void main(String[] args) {
        atFirst();
        noonAlone();
        dayWraps();
        aboveZero();
        valuesWrap();
        whatIsSoIsRefused();
        stepsBegun();
        agains();
        leftOutStepsAreNotRefused();
        lastHour();
        refusedHourChangesNothing();
        bargesComeInTheirHour();
        mastNoMoreThanClear();
        flowAtMost();
        knocksWhereItWaits();
        throughForGood();
        allBargesAtOnce();
        finedOnce();
        openIsToldOnce();
        Checks.end();
    }

    static LiddedRiver river(String text, String law) {
        LiddedRiver x = Checks.of(text);
        Checks.same("law " + law, Checks.law(x, law), 1);
        return x;
    }

    /** A LAW by which all BOARDS are to be open in one HOUR alone, counted from the very first. */
    static String only(int hour) {
        String due = hour > 999 ? "999-" + (hour - 999) : String.valueOf(hour);
        String back = hour > 999 ? "999+" + (hour - 999) : String.valueOf(hour);
        return "1-most[day*24+hour-" + due + "," + back + "-day*24-hour]";
    }

    /** Lets HOURS go by; makes as few WORKS as can be. */
    static void pass(LiddedRiver x, int hours) {
        int left = hours;
        while (left > 0) {
            int turns = Math.min(left, 60);
            Checks.same("hours", Checks.work(x, "again " + turns + " [hour;];"), turns);
            left -= turns;
        }
    }

    /** Up to HOUR 960 by seven WORKS. */
    static void passAll(LiddedRiver x) {
        for (int works = 0; works < 4; works++) {
            Checks.same("239 hours", Checks.work(x, FOUR_A_TURN), 239);
        }
        Checks.same("four hours", Checks.work(x, "again 4 [hour;];"), 4);
    }

    /** "It is HOUR 0 at first (of day 0); all BOARDS are left to the LAW, none was fined, no BARGE is there yet". */
    private static void atFirst() {
        LiddedRiver x = Checks.of("board 0 0 0;barge 9 0;");
        Checks.same("hour", x.told(3), 0);
        Checks.same("open", x.told(4), 0);
        Checks.same("fines", x.told(5), 0);
        Checks.same("knocks", x.told(6), 0);
        Checks.same("left", x.board(0, 4), 0);
        Checks.same("not there, though its hour is this one", x.barge(0, 3), 0);
        Checks.same("passed none", x.barge(0, 2), 0);
        Checks.same("not through", x.barge(0, 4), -1);
        Checks.law(x, "1 - hour - day");
        Checks.same("hour 0 of day 0", x.told(4), 1);
    }

    /** "without: 1 - most [ hour - 12 , 12 - hour ]". */
    private static void noonAlone() {
        LiddedRiver x = Checks.of("board 0 0 0;");
        for (int day : new int[] {0, 1, 98, 99}) {
            for (int hour = 0; hour < 24; hour++) {
                Checks.same("hour " + hour + " of day " + day, x.lawful(0, hour, day) ? 1 : 0, hour == 12 ? 1 : 0);
            }
        }
        pass(x, 12);
        Checks.same("noon is now", x.opens(0), 0);
        pass(x, 1);
        Checks.same("the next noon", x.opens(0), 23);
    }

    /** ""hour" (of the day, 0 to 23), "day" (from 0 on)". */
    private static void dayWraps() {
        LiddedRiver x = river("board 0 0 0;", "hour - 22");
        pass(x, 22);
        Checks.same("hour 22", x.told(4), 0);
        pass(x, 1);
        Checks.same("hour 23", x.told(4), 1);
        Checks.law(x, "day");
        Checks.same("day 0", x.told(4), 0);
        pass(x, 1);
        Checks.same("day 1", x.told(4), 1);
        Checks.law(x, "day - 1");
        Checks.same("day 1 alone", x.told(4), 0);
        Checks.same("day 2", x.opens(0), 24);
        Checks.law(x, "hour");
        Checks.same("hour 0 again", x.told(4), 0);
        Checks.same("hour 1", x.opens(0), 1);
        Checks.law(x, "hour - 22");
        Checks.same("hour 23", x.opens(0), 23);
        Checks.law(x, "hour - 23");
        Checks.same("no hour 24", x.opens(0), -1);
    }

    /** "A BOARD is to be open in an HOUR, if it is above 0". */
    private static void aboveZero() {
        String[] laws = {"0", "1", "0-1", "1-1", "2-1", "0*5", "1/2", "2/2", "(0-1)/2", "1%1", "1%2", "5/0", "5%0", "0/0+1"};
        int[] due = {0, 1, 0, 0, 1, 0, 0, 1, 0, 0, 1, 0, 0, 1};
        for (int i = 0; i < laws.length; i++) {
            Checks.same(laws[i], river("board 0 0 0;", laws[i]).told(4), due[i]);
        }
    }

    /** "Values are whole numbers of 32 bits that wrap; / cuts, % leaves (with the sign of what is divided)". */
    private static void valuesWrap() {
        String least = "(256*256*256*128)";
        String[] laws = {least, least + "-1", least + "-1+1", least + "+" + least + "+1", "256*256*256*256",
            "256*256*256*256+1", "(" + least + "-1)*2+3", least + "/(0-1)", "0-" + least + "/(0-1)", least + "%(0-1)+1",
            "0-" + least, "least[" + least + ",1]", "most[" + least + ",1]", "(0-7)/2+4", "(0-7)/2+3", "7/(0-2)+4",
            "(0-7)%4+4", "(0-7)%4+3", "7%(0-4)-2", "7%(0-4)-3"};
        int[] due = {0, 1, 0, 1, 0, 1, 1, 0, 0, 1, 0, 0, 1, 1, 0, 1, 1, 0, 1, 0};
        for (int i = 0; i < laws.length; i++) {
            Checks.same(laws[i], river("board 0 0 0;", laws[i]).told(4), due[i]);
        }
    }

    /** "BOARD B is so from now on (REFUSED, if it is)". */
    private static void whatIsSoIsRefused() {
        String[] steps = {"leave 1;", "lift 1;", "shut 1;"};
        for (int from = 0; from < 3; from++) {
            for (int to = 0; to < 3; to++) {
                LiddedRiver x = river("board 0 0 0;board 0 0 0;board 0 0 0;", "0");
                Checks.work(x, steps[from]);
                Checks.same(steps[from] + steps[to], Checks.work(x, steps[to]), from == to ? 0 : 1);
                Checks.same("refused", x.told(9), from == to ? 1 : 0);
                Checks.same("it is so", x.board(1, 4), to);
                Checks.same("it is open", x.board(1, 5), to == 1 ? 1 : 0);
                Checks.same("no other is", x.board(0, 4) + x.board(2, 4), 0);
            }
        }
    }

    private static void steps(String text, int done, int refused, int mode) {
        LiddedRiver x = Checks.of("board 0 0 0;");
        Checks.same(text, Checks.work(x, text), done);
        Checks.same("refused by " + text, x.told(9), refused);
        Checks.same("the board behind " + text, x.board(0, 4), mode);
    }

    /** "240 STEPS at most are begun by one WORK (.. REFUSED ones, too), what would come behind is left out". */
    private static void stepsBegun() {
        steps("again 59 [hour;hour;hour;hour;];hour;hour;lift 0;", 239, 0, 1);
        steps("again 59 [hour;hour;hour;hour;];hour;hour;hour;lift 0;", 239, 0, 0);
        steps("again 59 [leave 0;leave 0;leave 0;leave 0;];leave 0;leave 0;lift 0;", 1, 238, 1);
        steps("again 59 [leave 0;leave 0;leave 0;leave 0;];leave 0;leave 0;leave 0;lift 0;", 0, 239, 0);
        LiddedRiver x = Checks.of("board 0 0 0;");
        Checks.work(x, FOUR_A_TURN);
        Checks.same("the next one begins anew", Checks.work(x, "again 59 [hour;hour;hour;hour;];hour;hour;lift 0;"), 239);
        Checks.same("up to its 240th", x.board(0, 4), 1);
    }

    /** "(an again, too, each time it is come to ..)", "agains not counted". */
    private static void agains() {
        steps("again 60 [again 1 [hour;];again 1 [hour;];];", 119, 0, 0);
        steps("again 59 [again 0[];again 0[];again 0[];again 0[];];again 0[];again 0[];lift 0;", 1, 0, 1);
        steps("again 59 [again 0[];again 0[];again 0[];again 0[];];again 0[];again 0[];again 0[];lift 0;", 0, 0, 0);
        steps("again 59 [again 0[];again 0[];again 0[];again 0[];];hour;hour;again 1[lift 0;];", 2, 0, 0);
        steps("again 59 [again 0[];again 0[];again 0[];again 0[];];hour;again 1[lift 0;];", 2, 0, 1);
        steps("again 60 [again 60 [again 60 [again 60 [again 60 [again 60 [lift 0;];];];];];];", 1, 230, 1);
        steps("again 60 [];lift 0;", 1, 0, 1);
        steps("again 60 [again 60 [];];lift 0;", 1, 0, 1);
        steps("again 0 [lift 0;];", 0, 0, 0);
        steps("again 1 [lift 0;];", 1, 0, 1);
    }

    /** What is left out is neither done nor REFUSED. */
    private static void leftOutStepsAreNotRefused() {
        LiddedRiver x = Checks.of("board 0 0 0;");
        Checks.same("240 begun", Checks.work(x, FOUR_A_TURN + "leave 0;leave 0;"), 239);
        Checks.same("none refused", x.told(9), 0);
    }

    /** "Then the HOUR is one more (REFUSED from 960 on)". */
    private static void lastHour() {
        LiddedRiver x = Checks.of("board 0 0 0;");
        passAll(x);
        Checks.same("hour 960", x.told(3), 960);
        x.undo();
        Checks.same("hour 956", x.told(3), 956);
        Checks.same("four of five", Checks.work(x, "again 5 [hour;];"), 4);
        Checks.same("one refused", x.told(9), 1);
        x.undo();
        Checks.same("up to 959", Checks.work(x, "again 3 [hour;];"), 3);
        Checks.same("hour 959", x.told(3), 959);
        Checks.same("hour 959 is done", Checks.work(x, "hour;"), 1);
        Checks.same("hour 960", x.told(3), 960);
        Checks.same("hour 960 is not", Checks.work(x, "hour;"), 0);
        Checks.same("refused", x.told(9), 1);
        Checks.same("hour 960 still", x.told(3), 960);
    }

    /** "one that can't be done is REFUSED, and changes nothing". */
    private static void refusedHourChangesNothing() {
        LiddedRiver x = Checks.of("board 0 0 0;board 0 0 0;barge 9 95;");
        Checks.work(x, "shut 0;lift 1;");
        passAll(x);
        int fines = x.told(5);
        int knocks = x.told(6);
        Checks.same("fines", fines, 40 + 920);
        Checks.same("knocks", knocks, 960 - 95);
        Checks.same("done", Checks.work(x, "again 60 [hour;];"), 0);
        Checks.same("refused", x.told(9), 60);
        Checks.same("fines stay", x.told(5), fines);
        Checks.same("knocks stay", x.told(6), knocks);
        Checks.same("other steps are done", Checks.work(x, "hour;lift 0;hour;shut 1;"), 2);
        Checks.same("two refused", x.told(9), 2);
    }

    /** "comes in HOUR T, 0 to 95". */
    private static void bargesComeInTheirHour() {
        LiddedRiver x = Checks.of("board 0 0 0;barge 9 0;barge 9 95;barge 9 94;");
        pass(x, 1);
        Checks.same("the first one", x.barge(0, 3) * 100 + x.barge(1, 3) * 10 + x.barge(2, 3), 100);
        pass(x, 94);
        Checks.same("hour 95 has not gone by", x.told(3), 95);
        Checks.same("hour 94 has", x.barge(1, 3) * 10 + x.barge(2, 3), 1);
        pass(x, 1);
        Checks.same("the last one", x.barge(1, 3), 1);
        LiddedRiver none = Checks.of("barge 9 95;barge 0 0;");
        pass(none, 95);
        Checks.same("without boards, one", none.told(7), 1);
        Checks.same("in hour 0", none.barge(1, 4), 0);
        pass(none, 1);
        Checks.same("without boards, both", none.told(7), 2);
        Checks.same("in hour 95", none.barge(0, 4), 95);
        Checks.same("no knocks", none.told(6), 0);
    }

    /** "if it is open or the BARGE's MAST is no more than CLEAR". */
    private static void mastNoMoreThanClear() {
        for (int mast = 0; mast <= 9; mast++) {
            for (int clear = 0; clear <= 9; clear++) {
                LiddedRiver x = Checks.of("board " + clear + " 0 0;barge " + mast + " 0;barge " + mast + " 1;");
                Checks.work(x, "hour;lift 0;hour;");
                String what = "mast " + mast + ", clear " + clear;
                Checks.same(what, x.barge(0, 4), mast <= clear ? 0 : 1);
                Checks.same(what + ", knocks", x.told(6), mast <= clear ? 0 : 1);
                Checks.same(what + ", open", x.barge(1, 4), 1);
                Checks.same(what + ", held", x.narrow(mast, 0), mast <= clear ? 0 : 1);
            }
        }
    }

    /** "goes on, by V BOARDS at most, one by one", "behind the last BOARD it is THROUGH (in this HOUR)". */
    private static void flowAtMost() {
        for (int v = 1; v <= 4; v++) {
            for (int boards = 1; boards <= 9; boards++) {
                LiddedRiver x = Checks.of("flow " + v + ";" + "board 0 0 0;".repeat(boards) + "barge 0 0;");
                Checks.work(x, "hour;");
                Checks.same("flow " + v + ", " + boards + " boards", x.barge(0, 2), Math.min(v, boards));
                Checks.same("is it through", x.barge(0, 3), boards <= v ? 2 : 1);
                pass(x, 9);
                Checks.same("in which hour", x.barge(0, 4), (boards + v - 1) / v - 1);
                Checks.same("knocks", x.told(6), 0);
            }
        }
    }

    /** "else the BARGE KNOCKS there and waits for the next HOUR". */
    private static void knocksWhereItWaits() {
        LiddedRiver x = river("board 9 0 0;board 9 0 0;board 0 0 0;board 0 0 0;barge 1 0;", "0");
        Checks.work(x, "hour;");
        Checks.same("two passed, it did not come to the third", x.told(6), 0);
        Checks.work(x, "hour;");
        Checks.same("it knocks at the third", x.board(2, 7), 1);
        Checks.work(x, "lift 2;hour;");
        Checks.same("one passed, it knocks at the fourth", x.board(3, 7), 1);
        Checks.same("three passed", x.barge(0, 2), 3);
        Checks.work(x, "hour;");
        Checks.same("twice there", x.board(3, 7), 2);
        Checks.same("once at the third", x.board(2, 7), 1);
        Checks.same("in all", x.told(6), 3);
        LiddedRiver fast = river("flow 4;board 9 0 0;board 9 0 0;board 9 0 0;board 0 0 0;barge 1 0;", "0");
        Checks.work(fast, "hour;");
        Checks.same("at the fourth of four", fast.board(3, 7), 1);
        LiddedRiver first = river("flow 4;board 0 0 0;board 9 0 0;barge 1 0;", "0");
        Checks.work(first, "hour;");
        Checks.same("at the first, once", first.board(0, 7) * 10 + first.told(6), 11);
        Checks.same("passed none", first.barge(0, 2), 0);
    }

    /** What is THROUGH goes on no more. */
    private static void throughForGood() {
        LiddedRiver x = river("board 9 0 0;barge 1 0;barge 9 1;", "0");
        pass(x, 50);
        Checks.same("one passed", x.barge(0, 2), 1);
        Checks.same("in hour 0", x.barge(0, 4), 0);
        Checks.same("in hour 1", x.barge(1, 4), 1);
        Checks.same("both", x.told(7), 2);
        Checks.same("no knocks", x.told(6), 0);
    }

    /** Four BARGES of one HOUR, each knocks for itself. */
    private static void allBargesAtOnce() {
        LiddedRiver x = river("board 5 0 0;barge 5 0;barge 6 0;barge 7 0;barge 9 0;", "0");
        pass(x, 1);
        Checks.same("three knock", x.board(0, 7), 3);
        Checks.same("one is through", x.told(7), 1);
        Checks.work(x, "lift 0;hour;");
        Checks.same("all are", x.told(7), 4);
        Checks.same("no more knocks", x.told(6), 3);
    }

    /** "each BOARD that is open against the LAW, or not open against it, is fined once". */
    private static void finedOnce() {
        LiddedRiver x = Checks.of("board 0 0 0;board 0 0 0;board 0 0 0;barge 9 12;barge 9 12;");
        Checks.work(x, "lift 0;shut 1;");
        pass(x, 12);
        Checks.same("lifted ahead of noon", x.board(0, 6), 12);
        Checks.same("shut ahead of noon", x.board(1, 6), 0);
        pass(x, 1);
        Checks.same("lifted at noon", x.board(0, 6), 12);
        Checks.same("shut at noon, whoever knocks", x.board(1, 6), 1);
        Checks.same("left", x.board(2, 6), 0);
        pass(x, 1);
        Checks.same("in all", x.told(5), 14);
        Checks.work(x, "leave 0;leave 1;");
        pass(x, 24);
        Checks.same("left ones never", x.told(5), 14);
    }

    /** "what is open is told once, as the HOUR begins": fines of this HOUR open nothing in it. */
    private static void openIsToldOnce() {
        LiddedRiver x = river("board 0 0 0;board 0 0 0;barge 9 0;", "fined");
        Checks.work(x, "lift 0;hour;");
        Checks.same("lifted against the law", x.board(0, 6), 1);
        Checks.same("one passed", x.barge(0, 2), 1);
        Checks.work(x, "leave 0;");
        Checks.same("open by its fine", x.board(0, 5), 1);
        Checks.same("the other not", x.board(1, 5), 0);
        Checks.work(x, "shut 0;hour;");
        Checks.same("shut against the law now", x.board(0, 6), 2);
    }
}
