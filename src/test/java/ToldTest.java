/** Promises 9 to 16 and 31 to 33: what is told of the river as it is, and of its LAW. */
public final class ToldTest {
    private static final String RIVER = "board 3 5 2;board 1 9 4;board 0 2 3;board 5 7 1;board 2 4 6;barge 4 1;barge 0 0;"
        + "street 0 2 5;street 2 4 7;fish 0 9;fish 2 10;";

    public static void main(String[] args) {
        told();
        boards();
        barges();
        bargesWithoutBoards();
        streets();
        lawful();
        fines();
        opens();
        often();
        busiest();
        peak();
        narrow();
        worst();
        Checks.end();
    }

    private static void told() {
        LiddedRiver x = Checks.of(RIVER);
        Checks.book(x, "0 1;1 1;");
        Checks.work(x, "hour;hour;lift 0;lift 0;hour;");
        int[] due = {5, 2, 2, 3, 1, 1, 2, 1, 2, 1};
        for (int what = 0; what < due.length; what++) {
            Checks.same("told(" + what + ")", x.told(what), due[what]);
        }
        Checks.argument("told(-1)", x, () -> x.told(-1));
        Checks.argument("told(10)", x, () -> x.told(10));
        Checks.same("knocks: at 0 in hour 1, at 1 in hour 2", x.board(0, 7) + x.board(1, 7) * 10, 11);
    }

    private static void boards() {
        LiddedRiver x = Checks.of(RIVER);
        Checks.work(x, "shut 2;lift 0;again 13 [hour;];");
        int[][] due = {{3, 5, 2, 9, 1, 1, 12, 0}, {1, 9, 4, 0, 0, 0, 0, 11}, {0, 2, 3, 10, 2, 0, 1, 1}};
        for (int board = 0; board < due.length; board++) {
            for (int what = 0; what < 8; what++) {
                Checks.same("board(" + board + ", " + what + ")", x.board(board, what), due[board][what]);
            }
        }
        Checks.absent("board(5, 0)", x, () -> x.board(5, 0));
        Checks.absent("board(-1, 0)", x, () -> x.board(-1, 0));
        Checks.absent("board(5, 9)", x, () -> x.board(5, 9));
        Checks.argument("board(4, 8)", x, () -> x.board(4, 8));
        Checks.argument("board(4, -1)", x, () -> x.board(4, -1));
    }

    private static void barges() {
        LiddedRiver x = Checks.of(RIVER);
        int[] early = {4, 1, 0, 0, -1};
        for (int what = 0; what < 5; what++) {
            Checks.same("barge(0, " + what + ") at first", x.barge(0, what), early[what]);
        }
        Checks.work(x, "hour;");
        Checks.same("V boards in an hour", x.barge(1, 2), 2);
        Checks.same("on the river", x.barge(1, 3), 1);
        Checks.same("not there in hour 1 yet", x.barge(0, 3), 0);
        Checks.work(x, "hour;hour;");
        int[] through = {0, 0, 5, 2, 2};
        for (int what = 0; what < 5; what++) {
            Checks.same("barge(1, " + what + ") through", x.barge(1, what), through[what]);
        }
        Checks.same("it waits ahead of board 0", x.barge(0, 2), 0);
        Checks.same("it is there", x.barge(0, 3), 1);
        Checks.same("it knocks each hour", x.told(6), 2);
        Checks.absent("barge(2, 0)", x, () -> x.barge(2, 0));
        Checks.absent("barge(-1, 7)", x, () -> x.barge(-1, 7));
        Checks.argument("barge(1, 5)", x, () -> x.barge(1, 5));
        Checks.argument("barge(1, -1)", x, () -> x.barge(1, -1));
    }

    private static void bargesWithoutBoards() {
        LiddedRiver x = Checks.of("barge 9 1;");
        Checks.work(x, "hour;");
        Checks.same("not there yet", x.barge(0, 3), 0);
        Checks.work(x, "hour;");
        Checks.same("through at once", x.barge(0, 3), 2);
        Checks.same("in hour 1", x.barge(0, 4), 1);
    }

    private static void streets() {
        LiddedRiver x = Checks.of(RIVER);
        int[] due = {2, 4, 7, 0};
        for (int what = 0; what < 4; what++) {
            Checks.same("street(1, " + what + ")", x.street(1, what), due[what]);
        }
        Checks.work(x, "lift 4;lift 3;shut 2;");
        Checks.same("6 and 1 are no less than 7", x.street(1, 3), 1);
        Checks.same("the other one does not hold", x.street(0, 3), 0);
        Checks.work(x, "leave 3;");
        Checks.same("6 are less than 7", x.street(1, 3), 0);
        Checks.work(x, "again 12 [hour;];");
        Checks.same("by the law at noon", x.street(1, 3), 1);
        Checks.same("but not board 2, it is shut", x.street(0, 3), 1);
        Checks.absent("street(2, 9)", x, () -> x.street(2, 9));
        Checks.argument("street(1, 4)", x, () -> x.street(1, 4));
    }

    private static void lawful() {
        LiddedRiver x = Checks.of(RIVER);
        Checks.law(x, "day * 24 + hour - 99 * 24 - 22");
        Checks.same("the last hour", x.lawful(0, 23, 99) ? 1 : 0, 1);
        Checks.same("the one ahead", x.lawful(0, 22, 99) ? 1 : 0, 0);
        Checks.absent("lawful(5, 24, 0)", x, () -> x.lawful(5, 24, 0) ? 1 : 0);
        Checks.argument("lawful(4, 24, 0)", x, () -> x.lawful(4, 24, 0) ? 1 : 0);
        Checks.argument("lawful(4, -1, 0)", x, () -> x.lawful(4, -1, 0) ? 1 : 0);
        Checks.argument("lawful(4, 0, 100)", x, () -> x.lawful(4, 0, 100) ? 1 : 0);
        Checks.argument("lawful(4, 0, -1)", x, () -> x.lawful(4, 0, -1) ? 1 : 0);
        Checks.work(x, "shut 1;");
        Checks.law(x, "1");
        Checks.work(x, "hour;hour;");
        Checks.law(x, "fined - 1");
        Checks.same("fined twice", x.lawful(1, 0, 0) ? 1 : 0, 1);
        Checks.same("not fined", x.lawful(0, 0, 0) ? 1 : 0, 0);
    }

    private static void fines() {
        LiddedRiver x = Checks.of("board 1 1 1;board 1 1 1;board 1 1 1;");
        Checks.law(x, "3 - fined");
        Checks.work(x, "lift 0;shut 1;again 9 [hour;];");
        Checks.same("open by the law is not fined", x.board(0, 6), 0);
        Checks.same("shut against it, till the law lets it be", x.board(1, 6), 3);
        Checks.same("left is never fined", x.board(2, 6), 0);
        Checks.same("fines in all", x.told(5), 3);
    }

    private static void opens() {
        LiddedRiver x = Checks.of("board 1 1 1;board 1 1 1;board 1 1 1;");
        Checks.work(x, "lift 1;shut 2;hour;");
        Checks.same("at noon", x.opens(0), 11);
        Checks.same("now", x.opens(1), 0);
        Checks.same("never", x.opens(2), -1);
        Checks.law(x, "day * 24 + hour - 240");
        Checks.same("in 240 hours", x.opens(0), 240);
        Checks.law(x, "day * 24 + hour - 241");
        Checks.same("later than that", x.opens(0), -1);
        Checks.absent("opens(3)", x, () -> x.opens(3));
        Checks.absent("opens(-1)", x, () -> x.opens(-1));
    }

    private static void often() {
        LiddedRiver x = Checks.of("board 1 1 1;board 1 1 1;board 1 1 1;");
        Checks.work(x, "lift 1;shut 2;");
        Checks.same("noon is not in 12 hours", x.often(0, 12), 0);
        Checks.same("but in 13", x.often(0, 13), 1);
        Checks.same("in ten days", x.often(0, 240), 10);
        Checks.same("lifted", x.often(1, 240), 240);
        Checks.same("in none", x.often(1, 0), 0);
        Checks.same("shut", x.often(2, 240), 0);
        Checks.absent("often(3, 999)", x, () -> x.often(3, 999));
        Checks.argument("often(0, 241)", x, () -> x.often(0, 241));
        Checks.argument("often(0, -1)", x, () -> x.often(0, -1));
    }

    private static void busiest() {
        LiddedRiver x = Checks.of("board 1 1 1;board 1 1 1;board 1 1 1;");
        Checks.work(x, "lift 0;shut 1;");
        Checks.same("by the law alone", x.busiest(), 12);
        Checks.law(x, "least[hour - 3 * board + day * 20, 20 - hour]");
        Checks.same("day 0", x.busiest(), 7);
        Checks.work(x, "again 30 [hour;];");
        Checks.same("day 1", x.busiest(), 0);
        Checks.law(x, "0");
        Checks.same("never", x.busiest(), 0);
    }

    private static void peak() {
        LiddedRiver x = Checks.of("board 1 1 1;board 1 1 1;board 1 1 1;");
        Checks.work(x, "shut 1;hour;");
        Checks.same("at noon", x.peak(0), 11);
        Checks.same("two", x.peak(1), 2);
        Checks.law(x, "day * 24 + hour - 239");
        Checks.same("the last of 240", x.peak(0), 239);
        Checks.law(x, "day * 24 + hour - 240");
        Checks.same("none in them, the first", x.peak(0), 0);
        Checks.same("none in them", x.peak(1), 0);
        Checks.argument("peak(2)", x, () -> x.peak(2));
        Checks.argument("peak(-1)", x, () -> x.peak(-1));
    }

    private static void narrow() {
        LiddedRiver x = Checks.of("board 3 1 1;board 1 1 1;board 4 1 1;board 9 1 1;board 2 1 1;board 3 1 1;board 3 1 1;");
        Checks.same("lower than 3", x.narrow(3, 0), 18);
        Checks.same("longest row", x.narrow(3, 1), 2);
        Checks.same("the first of alike ones", x.narrow(3, 2), 2);
        Checks.same("all", x.narrow(0, 1), 7);
        Checks.same("from board 0 on", x.narrow(1, 2), 0);
        Checks.same("at the end", x.narrow(2, 2), 2);
        Checks.same("one", x.narrow(9, 1), 1);
        Checks.work(x, "shut 3;");
        Checks.same("open or not", x.narrow(9, 2), 3);
        LiddedRiver y = Checks.of("board 8 1 1;");
        Checks.same("no row", y.narrow(9, 1), 0);
        Checks.same("none", y.narrow(9, 2), -1);
        Checks.argument("narrow(10, 0)", x, () -> x.narrow(10, 0));
        Checks.argument("narrow(-1, 0)", x, () -> x.narrow(-1, 0));
        Checks.argument("narrow(0, 3)", x, () -> x.narrow(0, 3));
        Checks.argument("narrow(0, -1)", x, () -> x.narrow(0, -1));
    }

    private static void worst() {
        LiddedRiver x = Checks.of("board 9 1 1;board 0 1 1;board 3 1 1;board 0 1 1;barge 1 0;barge 4 0;flow 4;");
        Checks.same("none fined", x.worst(0), -1);
        Checks.same("none knocked at", x.worst(1), -1);
        Checks.work(x, "hour;");
        Checks.same("knocked at most", x.worst(1), 1);
        Checks.work(x, "lift 1;hour;");
        Checks.same("board 1 twice, boards 2 and 3 once", x.worst(1), 1);
        Checks.work(x, "lift 3;hour;");
        Checks.same("of these the first", x.worst(1), 1);
        Checks.same("fined most", x.worst(0), 1);
        Checks.work(x, "hour;");
        Checks.same("knocked at most now", x.worst(1), 2);
        Checks.work(x, "leave 1;hour;");
        Checks.same("fined most, of these the first", x.worst(0), 1);
        Checks.work(x, "hour;");
        Checks.same("fined most now", x.worst(0), 3);
        Checks.argument("worst(2)", x, () -> x.worst(2));
        Checks.argument("worst(-1)", x, () -> x.worst(-1));
    }
}
