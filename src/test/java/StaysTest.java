/**
 * "Asked, nothing stays changed", "(all stays)", "(it stays)", "doing nothing", "changes nothing": of two objects that
 * were told the same, one is given a call more that must leave no trace; then both are looked at, undone and restored.
 */
public final class StaysTest {
    private static final String RIVER = "board 3 5 2;board 1 9 4;board 0 2 3;board 5 7 1;board 2 4 6;barge 4 1;barge 0 0;"
        + "flow 1;street 0 2 5;street 2 4 7;fish 0 9;fish 2 10;smell 1;";
    /** What throws: each call of the face with one that is not there, or with a number that does not fit. */
    private static final String[] REFUSED = {
        "river -1", "river 41", "river 601", "law -1", "law 41", "law 151", "work -1", "work 41", "work 151", "book -1",
        "book 41", "book 101", "told 10", "board 5 0", "board 0 8", "barge 2 0", "barge 0 5", "street 2 0", "street 0 4",
        "lawful 5 0 0", "lawful 0 24 0", "lawful 0 0 100", "opens 5", "often 5 0", "often 0 241", "trip 10 0 0",
        "trip 0 49 0", "trip 0 0 3", "soonest 10 0 0", "soonest 0 49 0", "soonest 0 0 2", "hold 10 0", "hold 0 49",
        "tallest 49", "letter 5 0", "letter 0 3", "flood 4", "holds 32", "smells 5 0", "smells 0 32", "openers 4",
        "nose 2", "anglers 5 0", "anglers 0 2", "stand 5 0", "stand 0 5", "walk 5 0 0", "walk 0 5 0", "walk 0 0 21",
        "reach 5 0", "reach 0 21", "peak 2", "narrow 10 0", "narrow 0 3", "worst 2", "ahead 241 0", "ahead 0 3",
        "winters 0 17 1 0", "winters 0 0 0 0", "winters 0 0 1 4", "span 0 21 0 1 0", "span 0 1 17 1 0",
        "span 0 1 0 241 0", "span 0 1 0 1 3"};
    /** What is only asked. */
    private static final String[] ASKED = {
        "fault", "told 9", "board 4 7", "barge 1 4", "street 1 3", "lawful 4 23 99", "opens 0", "often 4 240", "busiest",
        "trip 9 48 2", "soonest 9 48 1", "hold 9 48", "tallest 48", "letter 0 2", "flood 3", "holds 31", "smells 4 31",
        "openers 1", "nose 1", "anglers 4 1", "stand 4 4", "walk 0 4 2", "reach 4 0", "peak 1", "narrow 9 2", "worst 1",
        "ahead 240 2", "winters 7 8 240 3", "span 7 20 8 240 2", "status 0", "status 2", "count 0", "count 3"};
    private static final String[] FAULTY = {
        "river board 1 1 1;board 10 1 1;", "river board 1 1 1", "river " + "barge 1 1;".repeat(5), "law 1 +", "law 1000",
        "law (((((((1)))))))", "work lift 0;hour;lift 5;", "work hour;hour", "work hour;again 61 [];", "book 1 1;5 1;",
        "book 1 1;1 2;", "book 1"};

    public static void main(String[] args) {
        for (String call : REFUSED) {
            leavesNoTrace(call, true);
        }
        for (String call : ASKED) {
            leavesNoTrace(call, false);
        }
        for (String text : FAULTY) {
            leavesTheRiver(text.substring(0, text.indexOf(' ')), text.substring(text.indexOf(' ') + 1));
        }
        feedBeyondTheTape();
        seventeenthWork();
        fourthImage();
        nothingToUndo();
        nothingToRestore();
        Checks.end();
    }

    /** Hours gone, fines, knocks, a law, a book, three works, two images, a fault's place and bytes on the tape. */
    private static LiddedRiver told() {
        LiddedRiver x = Checks.of(RIVER);
        Checks.law(x, "hour % 3 + fined / 4 - board % 2");
        Checks.book(x, "0 2;2 1;");
        Checks.work(x, "lift 0;shut 3;hour;hour;hour;");
        x.image();
        Checks.work(x, "again 5 [hour;];leave 3;");
        x.image();
        Checks.work(x, "leave 0;leave 0;shut 1;hour;");
        Checks.law(x, "hour +");
        Checks.feed(x, "shut 2;hour;hour;leave 2;leave 2;");
        return x;
    }

    private static void leavesNoTrace(String call, boolean isRefused) {
        LiddedRiver x = told();
        String[] words = call.split(" ");
        Object[] args = new Object[words.length - 1];
        for (int i = 0; i < args.length; i++) {
            args[i] = Integer.valueOf(words[i + 1]);
        }
        String answer = Checks.answer(x, words[0], args);
        Checks.same(call + " is refused", answer.startsWith("throws") ? 1 : 0, isRefused ? 1 : 0);
        LiddedRiver twin = told();
        Checks.same("the fault's place behind " + call, x.fault(), twin.fault());
        Checks.same("the tape behind " + call, x.count(1), twin.count(1));
        Checks.same("its text behind " + call, x.work(33), twin.work(33));
        sameTrail(call, x, twin);
    }

    /** "or the FAULT less 10 (all stays)": but the TAPE is empty then, and the place is another. */
    private static void leavesTheRiver(String kind, String text) {
        LiddedRiver x = told();
        x.law(0);
        int answer = Checks.text(x, kind, text);
        Checks.same(kind + " " + text + " has a fault", answer <= -7 && answer >= -9 ? 1 : 0, 1);
        Checks.same("the tape behind " + text, x.count(1), 0);
        Checks.same("a place behind " + text, x.fault() >= 0 ? 1 : 0, 1);
        sameTrail(text, x, told());
    }

    /** "NONE, doing nothing, if there would be more than 600". */
    private static void feedBeyondTheTape() {
        LiddedRiver x = told();
        x.work(0);
        LiddedRiver twin = told();
        twin.work(0);
        for (int feeds = 0; feeds < 29; feeds++) {
            x.feed(0x20202020, 0x20202020, 0x20202020, 0x20202020, 0x20202020);
            twin.feed(0x20202020, 0x20202020, 0x20202020, 0x20202020, 0x20202020);
        }
        Checks.same("up to 600", x.feed(0x20666c6f, 0x7720333b, 0x20202020, 0x20202020, 0x20203b3b), 600);
        twin.feed(0x20666c6f, 0x7720333b, 0x20202020, 0x20202020, 0x20203b3b);
        Checks.same("beyond 600", x.feed(0x3b3b3b3b, -1, -1, -1, -1), -1);
        Checks.same("bytes stay", x.count(1), 600);
        sameTrail("feed beyond 600", x, twin);
        Checks.same("the text stays", x.river(598), 0);
    }

    /** "-20 ahead of that (nothing is read, there is no FAULT, the TAPE is empty then)". */
    private static void seventeenthWork() {
        LiddedRiver x = told();
        LiddedRiver twin = told();
        for (int works = 4; works <= 16; works++) {
            Checks.same("an empty work", x.work(0), 0);
            Checks.same("an empty work", twin.work(0), 0);
        }
        Checks.law(x, "no law");
        Checks.same("a fault's place", x.fault(), 0);
        Checks.same("a 17th", Checks.work(x, "hour;lift"), -20);
        Checks.same("no fault", x.fault(), -1);
        Checks.same("the tape", x.count(1), 0);
        Checks.same("works", x.count(2), 16);
        sameTrail("a 17th work", x, twin);
    }

    /** "-1: there are 3". */
    private static void fourthImage() {
        LiddedRiver x = told();
        LiddedRiver twin = told();
        Checks.same("a third", x.image(), 3);
        Checks.same("a third", twin.image(), 3);
        Checks.work(x, "hour;");
        Checks.work(twin, "hour;");
        Checks.same("a fourth", x.image(), -1);
        sameTrail("a fourth image", x, twin);
    }

    /** "-1: there is none". */
    private static void nothingToUndo() {
        LiddedRiver x = Checks.of(RIVER);
        LiddedRiver twin = Checks.of(RIVER);
        x.image();
        twin.image();
        Checks.same("undo without works", x.undo(), -1);
        sameTrail("undo without works", x, twin);
    }

    /** "-1: there is none". */
    private static void nothingToRestore() {
        LiddedRiver x = told();
        LiddedRiver twin = told();
        x.restore();
        x.restore();
        twin.restore();
        twin.restore();
        Checks.work(x, "hour;hour;lift 1;lift 1;");
        Checks.work(twin, "hour;hour;lift 1;lift 1;");
        Checks.same("restore without images", x.restore(), -1);
        sameTrail("restore without images", x, twin);
    }

    /** Both answer alike now, one work ago, in the latest image, one work ahead of that, and in the image ahead of it. */
    private static void sameTrail(String call, LiddedRiver x, LiddedRiver twin) {
        same(call + ", now", x, twin);
        Checks.same("undo behind " + call, x.undo(), twin.undo());
        same(call + ", undone", x, twin);
        Checks.same("restore behind " + call, x.restore(), twin.restore());
        Checks.same("undo behind restore behind " + call, x.undo(), twin.undo());
        same(call + ", restored and undone", x, twin);
        Checks.same("restore behind " + call, x.restore(), twin.restore());
        same(call + ", restored", x, twin);
    }

    private static void same(String call, LiddedRiver x, LiddedRiver twin) {
        Checks.same("behind " + call, all(x), all(twin));
    }

    private static String all(LiddedRiver x) {
        StringBuilder s = new StringBuilder();
        for (int what = 0; what < 10; what++) {
            s.append(x.told(what)).append(' ');
        }
        for (int board = 0; board < 5; board++) {
            s.append(": ");
            for (int what = 3; what < 8; what++) {
                s.append(x.board(board, what)).append(' ');
            }
            s.append(x.opens(board)).append(' ');
        }
        for (int barge = 0; barge < 2; barge++) {
            s.append(": ").append(x.barge(barge, 2)).append(' ').append(x.barge(barge, 3)).append(' ');
            s.append(x.barge(barge, 4)).append(' ').append(x.street(barge, 3)).append(' ');
        }
        s.append(": ").append(x.openers(1)).append(' ').append(x.ahead(30, 2)).append(' ').append(x.trip(4, 1, 0));
        return s.append(' ').append(x.count(0)).append(' ').append(x.count(2)).toString();
    }
}
