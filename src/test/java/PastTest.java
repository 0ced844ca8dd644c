/** Promises 8 and 37 to 40: WORKS undone, IMAGES, refusals and counts. */
public final class PastTest {
    private static final String RIVER = "board 3 0 0;board 1 0 0;barge 4 0;";

    public static void main(String[] args) {
        undo();
        undoKeepsLawAndBook();
        images();
        imagesOfWorks();
        refusedSteps();
        refusals();
        counts();
        Checks.end();
    }

    private static void undo() {
        LiddedRiver x = Checks.of(RIVER);
        Checks.same("nothing to undo", x.undo(), -1);
        Checks.work(x, "lift 0;hour;");
        Checks.work(x, "lift 1;hour;");
        Checks.same("through in hour 1", x.barge(0, 4), 1);
        Checks.same("undo the second", x.undo(), 1);
        Checks.same("hour", x.told(3), 1);
        Checks.same("fines", x.told(5), 1);
        Checks.same("knocks", x.told(6), 1);
        Checks.same("modes", x.board(0, 4) * 10 + x.board(1, 4), 10);
        Checks.same("passed", x.barge(0, 2), 1);
        Checks.same("on the river again", x.barge(0, 3), 1);
        Checks.same("not through", x.barge(0, 4), -1);
        Checks.same("what is open is known anew", x.opens(1), 11);
        Checks.same("undo the first", x.undo(), 0);
        Checks.same("as at first", x.told(3) + x.told(5) + x.told(6) + x.board(0, 4) + x.barge(0, 3), 0);
        Checks.same("no more", x.undo(), -1);
        for (int works = 1; works <= 16; works++) {
            Checks.work(x, "hour;");
        }
        for (int works = 15; works >= 0; works--) {
            Checks.same("undo", x.undo(), works);
            Checks.same("hour", x.told(3), works);
        }
    }

    private static void undoKeepsLawAndBook() {
        LiddedRiver x = Checks.of(RIVER);
        Checks.work(x, "hour;");
        Checks.law(x, "1");
        Checks.book(x, "0 1;");
        x.undo();
        Checks.same("law", x.told(4), 2);
        Checks.same("book", x.told(8), 1);
        x.image();
        Checks.law(x, "0");
        Checks.book(x, "");
        x.restore();
        Checks.same("law", x.told(4), 0);
        Checks.same("book", x.told(8), 0);
    }

    private static void images() {
        LiddedRiver x = Checks.of(RIVER);
        Checks.same("no image", x.restore(), -1);
        for (int images = 1; images <= 3; images++) {
            Checks.work(x, "hour;");
            Checks.same("image", x.image(), images);
        }
        Checks.work(x, "lift 0;hour;");
        Checks.same("a fourth", x.image(), -1);
        Checks.same("hour", x.told(3), 4);
        for (int images = 2; images >= 0; images--) {
            Checks.same("restore", x.restore(), images);
            Checks.same("hour", x.told(3), images + 1);
            Checks.same("works", x.count(2), images + 1);
            Checks.same("mode", x.board(0, 4), 0);
        }
        Checks.same("no more", x.restore(), -1);
        Checks.same("hour", x.told(3), 1);
    }

    private static void imagesOfWorks() {
        LiddedRiver x = Checks.of(RIVER);
        Checks.work(x, "hour;");
        Checks.work(x, "lift 0;hour;");
        x.image();
        x.undo();
        x.undo();
        Checks.work(x, "shut 1;");
        Checks.same("restore", x.restore(), 0);
        Checks.same("both works are back", x.count(2), 2);
        Checks.same("hour", x.told(3), 2);
        Checks.same("undo", x.undo(), 1);
        Checks.same("hour", x.told(3), 1);
        Checks.same("mode", x.board(0, 4), 0);
        Checks.same("undo", x.undo(), 0);
        Checks.same("hour", x.told(3), 0);
    }

    private static void refusedSteps() {
        LiddedRiver x = Checks.of(RIVER);
        Checks.work(x, "leave 0;leave 0;");
        Checks.same("two", x.told(9), 2);
        Checks.same("restore without an image", x.restore(), -1);
        Checks.same("changes nothing", x.told(9), 2);
        x.image();
        Checks.same("nor does an image", x.told(9), 2);
        x.undo();
        Checks.same("behind undo", x.told(9), 0);
        Checks.work(x, "leave 0;");
        Checks.same("one", x.told(9), 1);
        x.restore();
        Checks.same("behind restore", x.told(9), 0);
    }

    private static void refusals() {
        LiddedRiver x = Checks.of(RIVER);
        Checks.same("absent ones at first", x.status(0), 0);
        Checks.same("arguments at first", x.status(1), 0);
        x.image();
        Checks.thrownBy(() -> x.board(2, 0));
        Checks.thrownBy(() -> x.board(2, 99));
        Checks.thrownBy(() -> x.told(99));
        Checks.same("absent ones", x.status(0), 2);
        Checks.same("arguments", x.status(1), 1);
        x.restore();
        Checks.river(x, "flow 1;");
        Checks.river(x, "flow 9;");
        Checks.same("no image and no river keeps them", x.status(0) * 10 + x.status(1), 21);
        Checks.same("others", x.status(2), -1);
        Checks.same("others", x.status(-1), -1);
    }

    private static void counts() {
        LiddedRiver x = Checks.of(RIVER);
        Checks.work(x, "hour;");
        Checks.work(x, "hour;");
        x.image();
        x.feed(0, 0, 0, 0, 0);
        Checks.same("images", x.count(0), 1);
        Checks.same("bytes", x.count(1), 20);
        Checks.same("works", x.count(2), 2);
        Checks.same("others", x.count(3), -1);
        Checks.same("others", x.count(-1), -1);
    }
}
