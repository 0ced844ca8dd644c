/**
 * The edges of what is kept and counted (promises 3, 5, 8, 9, 37 to 40): no WORK and the sixteenth, no IMAGE and the
 * third, what a new RIVER clears, and that refused calls are counted once each, by their reason, and nothing else is.
 */
public final class PastEdgesTest {
    private static final String RIVER = "board 3 0 0;board 1 0 0;barge 4 0;street 0 0 1;";

    public static void main(String[] args) {
        sixteenWorks();
        worksThatAreNone();
        undoOneByOne();
        refusedStepsOfTheLatest();
        refusedStepsBehindASeventeenth();
        threeImages();
        imageOfNothing();
        imageOfSixteenWorks();
        restoreTheLatestFirst();
        imagesKeepNoTexts();
        riverClearsAll();
        faultyRiverClearsNothing();
        whatWasAskedIsAskedAnew();
        countedByReason();
        answersAreNoRefusals();
        nothingTakesCountsBack();
        othersAreNone();
        Checks.end();
    }

    /** "-20 ..: 16 WORKS are there that were not undone". */
    private static void sixteenWorks() {
        LiddedRiver x = Checks.of(RIVER);
        for (int works = 1; works <= 16; works++) {
            Checks.same("work " + works, Checks.work(x, "hour;"), 1);
            Checks.same("works", x.count(2), works);
        }
        Checks.same("a 17th", Checks.work(x, "hour;"), -20);
        Checks.same("a 17th without bytes", x.work(0), -20);
        Checks.same("a 17th with a fault", Checks.work(x, "x"), -20);
        Checks.same("hour 16", x.told(3), 16);
        x.feed(0, 0, 0, 0, 0);
        Checks.argument("a 17th of too many bytes", x, () -> x.work(21));
        Checks.argument("a 17th of less than none", x, () -> x.work(-1));
        Checks.same("the tape stays", x.count(1), 20);
        Checks.same("a book is taken all the same", x.book(0), 0);
        Checks.same("and a law", Checks.law(x, "1"), 1);
        Checks.same("undo", x.undo(), 15);
        Checks.same("one more is done", Checks.work(x, "hour;hour;"), 2);
        Checks.same("works", x.count(2), 16);
        Checks.same("the next is not", x.work(0), -20);
        Checks.same("all are undone", undoAll(x), 16);
        Checks.same("hour 0", x.told(3), 0);
    }

    private static int undoAll(LiddedRiver x) {
        int undone = 0;
        while (undone < 99 && x.undo() >= 0) {
            undone++;
        }
        return undone;
    }

    /** "or the FAULT less 10 (none is)": with a FAULT it is no WORK; without STEPS, or with REFUSED ones alone, it is one. */
    private static void worksThatAreNone() {
        LiddedRiver x = Checks.of(RIVER);
        Checks.same("with a fault", Checks.work(x, "hour;hour"), -9);
        Checks.same("none", x.count(2), 0);
        Checks.same("nothing to undo", x.undo(), -1);
        Checks.same("without steps", x.work(0), 0);
        Checks.same("one", x.count(2), 1);
        Checks.same("refused", Checks.work(x, "leave 0;"), 0);
        Checks.same("two", x.count(2), 2);
        Checks.same("with a wrong n", Checks.thrownBy(() -> x.work(1)), 2);
        Checks.same("two still", x.count(2), 2);
    }

    /** "The latest WORK that was done is undone: how many are left; -1: there is none". */
    private static void undoOneByOne() {
        LiddedRiver x = Checks.of(RIVER);
        Checks.same("none", x.undo(), -1);
        Checks.work(x, "lift 0;");
        Checks.work(x, "hour;");
        Checks.work(x, "shut 0;hour;");
        Checks.same("two left", x.undo(), 2);
        Checks.same("lifted, one hour", x.board(0, 4) * 10 + x.told(3), 11);
        Checks.same("one left", x.undo(), 1);
        Checks.same("lifted, no hour", x.board(0, 4) * 10 + x.told(3), 10);
        Checks.same("none left", x.undo(), 0);
        Checks.same("as at first", x.board(0, 4) * 10 + x.told(3), 0);
        Checks.same("none", x.undo(), -1);
        Checks.same("as at first still", x.board(0, 4) * 10 + x.told(3), 0);
        Checks.work(x, "hour;");
        Checks.same("works again", x.count(2), 1);
    }

    /** "9 STEPS REFUSED by the latest WORK (0 ahead of any, behind undo(), restore())". */
    private static void refusedStepsOfTheLatest() {
        LiddedRiver x = Checks.of(RIVER);
        Checks.same("ahead of any", x.told(9), 0);
        Checks.work(x, "leave 0;leave 1;hour;leave 0;");
        Checks.same("three", x.told(9), 3);
        Checks.law(x, "0");
        Checks.book(x, "");
        x.image();
        Checks.same("no other text and no image changes it", x.told(9), 3);
        Checks.work(x, "hour;");
        Checks.same("by the latest none", x.told(9), 0);
        x.undo();
        Checks.same("behind undo", x.told(9), 0);
        Checks.work(x, "leave 0;");
        x.restore();
        Checks.same("behind restore", x.told(9), 0);
        Checks.work(x, "again 60 [leave 0;leave 0;leave 0;leave 0;];");
        Checks.same("as many as can be", x.told(9), 239);
        Checks.river(x, RIVER);
        Checks.same("behind a river", x.told(9), 0);
    }

    /** "-20 ahead of that (nothing is read ..)": what was not read is not the latest WORK. */
    private static void refusedStepsBehindASeventeenth() {
        LiddedRiver x = Checks.of(RIVER);
        for (int works = 1; works <= 16; works++) {
            Checks.work(x, "leave 0;leave 1;");
        }
        Checks.same("two by the sixteenth", x.told(9), 2);
        Checks.same("a 17th", Checks.work(x, "leave 0;"), -20);
        Checks.same("two still", x.told(9), 2);
        x.undo();
        Checks.same("behind undo", x.told(9), 0);
        Checks.same("a sixteenth again", Checks.work(x, "leave 0;"), 0);
        Checks.same("one", x.told(9), 1);
    }

    /** "how many there are; -1: there are 3", "how many are left; -1: there is none". */
    private static void threeImages() {
        LiddedRiver x = Checks.of(RIVER);
        Checks.same("none", x.restore(), -1);
        for (int images = 1; images <= 3; images++) {
            Checks.same("image", x.image(), images);
            Checks.same("images", x.count(0), images);
        }
        Checks.same("a fourth", x.image(), -1);
        Checks.same("images", x.count(0), 3);
        Checks.same("restore", x.restore(), 2);
        Checks.same("a third again", x.image(), 3);
        Checks.same("a fourth again", x.image(), -1);
        for (int images = 2; images >= 0; images--) {
            Checks.same("restore", x.restore(), images);
            Checks.same("images", x.count(0), images);
        }
        Checks.same("none", x.restore(), -1);
        Checks.same("images", x.count(0), 0);
    }

    private static void imageOfNothing() {
        LiddedRiver x = new LiddedRiver();
        Checks.same("image of a new object", x.image(), 1);
        Checks.work(x, "hour;");
        Checks.same("restore", x.restore(), 0);
        Checks.same("hour", x.told(3), 0);
        Checks.same("works", x.count(2), 0);
        Checks.same("undo", x.undo(), -1);
    }

    /** "and of WORKS that can be undone". */
    private static void imageOfSixteenWorks() {
        LiddedRiver x = Checks.of(RIVER);
        for (int works = 1; works <= 16; works++) {
            Checks.work(x, "hour;");
        }
        x.image();
        Checks.same("all undone", undoAll(x), 16);
        x.image();
        for (int works = 1; works <= 16; works++) {
            Checks.work(x, "hour;hour;");
        }
        Checks.same("a 17th", x.work(0), -20);
        Checks.same("restore the one without works", x.restore(), 1);
        Checks.same("works", x.count(2), 0);
        Checks.same("hour", x.told(3), 0);
        Checks.same("restore the one of sixteen", x.restore(), 0);
        Checks.same("works", x.count(2), 16);
        Checks.same("hour", x.told(3), 16);
        Checks.same("a 17th", x.work(0), -20);
        for (int works = 15; works >= 0; works--) {
            Checks.same("undo", x.undo(), works);
            Checks.same("hour", x.told(3), works);
        }
    }

    /** "All that is as in the latest IMAGE, which is gone". */
    private static void restoreTheLatestFirst() {
        LiddedRiver x = Checks.of(RIVER);
        x.image();
        Checks.work(x, "lift 0;hour;");
        x.image();
        Checks.work(x, "shut 0;hour;lift 1;hour;");
        x.image();
        Checks.work(x, "leave 0;again 9 [hour;];");
        Checks.same("the third", x.restore(), 2);
        Checks.same("hour 3", x.told(3), 3);
        Checks.same("shut, lifted", x.board(0, 4) * 10 + x.board(1, 4), 21);
        Checks.same("through in hour 2", x.barge(0, 4), 2);
        Checks.same("fines", x.told(5), 2);
        Checks.same("the second", x.restore(), 1);
        Checks.same("hour 1", x.told(3), 1);
        Checks.same("on the river", x.barge(0, 3) * 10 + x.barge(0, 2), 11);
        Checks.same("knocks", x.told(6), 1);
        Checks.same("the first", x.restore(), 0);
        Checks.same("as at first", x.told(3) + x.told(5) + x.told(6) + x.board(0, 4) + x.barge(0, 3), 0);
    }

    /** "An IMAGE of all that WORK changes": LAW, BOOK, TAPE and FAULT are none of that. */
    private static void imagesKeepNoTexts() {
        LiddedRiver x = Checks.of(RIVER);
        Checks.work(x, "hour;");
        x.image();
        Checks.law(x, "1");
        Checks.book(x, "0 3;1 5;");
        Checks.law(x, "1 +");
        x.feed(0, 0, 0, 0, 0);
        x.restore();
        Checks.same("the law", x.told(4), 2);
        Checks.same("the book", x.told(8), 2);
        Checks.same("the tape", x.count(1), 20);
        Checks.same("the fault", x.fault(), 3);
        x.undo();
        Checks.same("the law behind undo", x.told(4), 2);
        Checks.same("the book behind undo", x.told(8), 2);
        Checks.same("the tape behind undo", x.count(1), 20);
        Checks.same("the fault behind undo", x.fault(), 3);
    }

    private static LiddedRiver used() {
        LiddedRiver x = Checks.of(RIVER + "fish 0 7;flow 4;smell 4;");
        Checks.law(x, "1");
        Checks.book(x, "0 5;");
        Checks.work(x, "lift 0;shut 1;lift 0;hour;");
        x.image();
        x.image();
        return x;
    }

    /** "are the RIVER (HOUR 0; no LAW, BOOK, IMAGES, nothing to undo)". */
    private static void riverClearsAll() {
        for (String text : new String[] {"", " ", "board 0 0 0;board 0 0 0;board 0 0 0;barge 1 0;"}) {
            LiddedRiver x = used();
            LiddedRiver anew = new LiddedRiver();
            Checks.same("boards", Checks.river(x, text), Checks.river(anew, text));
            for (int what = 0; what <= 9; what++) {
                Checks.same("told(" + what + ") behind \"" + text + "\"", x.told(what), anew.told(what));
            }
            for (int board = 0; board < anew.told(0); board++) {
                for (int what = 0; what <= 7; what++) {
                    Checks.same("board(" + board + ", " + what + ")", x.board(board, what), anew.board(board, what));
                }
                Checks.same("opens", x.opens(board), 12);
                Checks.same("smells", x.smells(board, 1), anew.smells(board, 1));
            }
            Checks.same("trip", x.trip(0, 0, 0), anew.trip(0, 0, 0));
            Checks.same("openers", x.openers(0), anew.openers(0));
            Checks.same("images", x.count(0), 0);
            Checks.same("works", x.count(2), 0);
            Checks.same("restore", x.restore(), -1);
            Checks.same("undo", x.undo(), -1);
            Checks.absent("a street", x, () -> x.street(0, 0));
        }
    }

    /** "or the FAULT less 10 (all stays)". */
    private static void faultyRiverClearsNothing() {
        LiddedRiver x = used();
        Checks.same("a fault behind other boards", Checks.river(x, "board 9 9 9;flow 1;smell 0;fish 0 1;board 9 9 9"), -9);
        Checks.same("boards", x.told(0), 2);
        Checks.same("clear", x.board(0, 0), 3);
        Checks.same("fish", x.board(0, 3), 7);
        Checks.same("smell", x.smells(0, 1), 5);
        Checks.same("flow", x.trip(0, 0, 0), 0);
        Checks.same("hour", x.told(3), 1);
        Checks.same("lines", x.told(8), 1);
        Checks.same("refused", x.told(9), 1);
        Checks.same("images", x.count(0), 2);
        Checks.same("works", x.count(2), 1);
        Checks.same("the law", x.lawful(0, 0, 0) ? 1 : 0, 1);
    }

    /** What was asked ahead of a change is answered by what is behind it. */
    private static void whatWasAskedIsAskedAnew() {
        LiddedRiver x = Checks.of(RIVER);
        Checks.same("at noon", x.opens(0), 12);
        Checks.law(x, "1 - most[hour - 3, 3 - hour]");
        Checks.same("by another law", x.opens(0), 3);
        Checks.work(x, "hour;");
        Checks.same("an hour later", x.opens(0), 2);
        x.image();
        Checks.work(x, "hour;");
        Checks.same("two hours later", x.opens(0), 1);
        x.undo();
        Checks.same("undone", x.opens(0), 2);
        Checks.work(x, "hour;hour;");
        Checks.same("three hours later", x.opens(0), 0);
        x.restore();
        Checks.same("restored", x.opens(0), 2);
        Checks.river(x, RIVER);
        Checks.same("by another river", x.opens(0), 12);
    }

    /** "How many calls were refused: 0 NoSuchElementException, 1 IllegalArgumentException". */
    private static void countedByReason() {
        LiddedRiver x = Checks.of(RIVER);
        for (int times = 1; times <= 20; times++) {
            Checks.same("absent", Checks.thrownBy(() -> x.board(2, 99)), 1);
            Checks.same("argument", Checks.thrownBy(() -> x.board(1, 99)), 2);
            Checks.same("argument", Checks.thrownBy(() -> x.span(0, 0, 99, 0, 99)), 2);
            Checks.same("absent ones", x.status(0), times);
            Checks.same("arguments, once for a call", x.status(1), 2 * times);
        }
    }

    /** What is answered is no refusal: FAULTS, NONE, -1, -20, and STEPS REFUSED. */
    private static void answersAreNoRefusals() {
        LiddedRiver x = Checks.of(RIVER);
        Checks.river(x, "x");
        Checks.law(x, "x");
        Checks.work(x, "x");
        Checks.book(x, "x");
        Checks.work(x, "leave 0;leave 0;");
        x.undo();
        x.undo();
        x.restore();
        for (int images = 0; images < 5; images++) {
            x.image();
        }
        for (int works = 0; works < 18; works++) {
            x.work(0);
        }
        for (int feeds = 0; feeds < 32; feeds++) {
            x.feed(0, 0, 0, 0, 0);
        }
        x.status(9);
        x.count(9);
        x.worst(0);
        Checks.same("absent ones", x.status(0), 0);
        Checks.same("arguments", x.status(1), 0);
    }

    /** "(No IMAGE keeps it.)" */
    private static void nothingTakesCountsBack() {
        LiddedRiver x = Checks.of(RIVER);
        Checks.thrownBy(() -> x.opens(2));
        Checks.work(x, "hour;");
        x.image();
        Checks.thrownBy(() -> x.opens(-1));
        Checks.thrownBy(() -> x.told(-1));
        x.restore();
        Checks.same("behind restore", x.status(0) * 10 + x.status(1), 21);
        x.undo();
        Checks.same("behind undo", x.status(0) * 10 + x.status(1), 21);
        x.river(0);
        Checks.same("behind a river", x.status(0) * 10 + x.status(1), 21);
        LiddedRiver other = new LiddedRiver();
        Checks.same("of another object", other.status(0) + other.status(1), 0);
    }

    /** "NONE for others", and that is no refusal. */
    private static void othersAreNone() {
        LiddedRiver x = Checks.of(RIVER);
        for (int what : new int[] {-1, 2, 3, Integer.MIN_VALUE, Integer.MAX_VALUE}) {
            Checks.same("status(" + what + ")", x.status(what), -1);
            Checks.same("count(" + what + ")", x.count(what), what == 2 ? 0 : -1);
        }
        Checks.same("none is counted", x.status(0) + x.status(1), 0);
    }
}
