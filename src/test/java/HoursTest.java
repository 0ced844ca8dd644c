/** Promises 17 to 21 and 34 to 36: TRIPS, LETTERS, HOURS ahead, WINTERS; and that asking changes nothing. */
public final class HoursTest {
    private static final String FIVE = "board 3 5 2;board 1 9 4;board 0 2 3;board 5 7 1;board 2 4 6;barge 4 1;barge 0 0;";

    public static void main(String[] args) {
        trips();
        tripsBeyondForesight();
        soonest();
        holds();
        tallest();
        letters();
        ahead();
        aheadByFines();
        winters();
        wintersByHand();
        spans();
        beyondTheLastHour();
        nothingStaysChanged();
        Checks.end();
    }

    private static void trips() {
        LiddedRiver x = Checks.of(FIVE);
        Checks.work(x, "again 3 [hour;];");
        Checks.same("through by three noons", x.trip(4, 0, 0), 57);
        Checks.same("knocks", x.trip(4, 0, 1), 55);
        Checks.same("most at board 2, of alike ones the first", x.trip(4, 0, 2), 2);
        Checks.same("it comes at noon", x.trip(4, 9, 0), 57);
        Checks.same("one that never waits", x.trip(0, 5, 0), 7);
        Checks.same("does not knock", x.trip(0, 5, 1), 0);
        Checks.same("nowhere", x.trip(0, 5, 2), -1);
        Checks.same("the latest coming", x.trip(0, 48, 0), 50);
        Checks.argument("trip(10, 0, 0)", x, () -> x.trip(10, 0, 0));
        Checks.argument("trip(-1, 0, 0)", x, () -> x.trip(-1, 0, 0));
        Checks.argument("trip(0, 49, 0)", x, () -> x.trip(0, 49, 0));
        Checks.argument("trip(0, -1, 0)", x, () -> x.trip(0, -1, 0));
        Checks.argument("trip(0, 0, 3)", x, () -> x.trip(0, 0, 3));
        Checks.argument("trip(0, 0, -1)", x, () -> x.trip(0, 0, -1));
        LiddedRiver none = new LiddedRiver();
        Checks.same("without boards", none.trip(9, 7, 0), 7);
        Checks.same("without boards, knocks", none.trip(9, 7, 1), 0);
    }

    private static void tripsBeyondForesight() {
        LiddedRiver x = Checks.of("board 0 1 1;");
        Checks.law(x, "day * 24 + hour - 238");
        Checks.same("through in the 240th hour", x.trip(1, 0, 0), 239);
        Checks.same("knocks ahead of it", x.trip(1, 0, 1), 239);
        Checks.law(x, "day * 24 + hour - 239");
        Checks.same("not in 240 hours", x.trip(1, 0, 0), -1);
        Checks.same("knocks by then", x.trip(1, 0, 1), 240);
        Checks.same("knocks by then, from hour 48 on", x.trip(1, 48, 1), 192);
        Checks.same("where", x.trip(1, 48, 2), 0);
    }

    private static void soonest() {
        LiddedRiver x = Checks.of("board 0 1 1;board 9 1 1;board 9 1 1;");
        Checks.same("comes at noon", x.soonest(1, 48, 0), 12);
        Checks.same("through then", x.soonest(1, 48, 1), 13);
        Checks.same("it may not come so late", x.soonest(1, 5, 0), 5);
        Checks.same("through all the same", x.soonest(1, 5, 1), 13);
        Checks.same("comes now", x.soonest(1, 0, 0), 0);
        Checks.same("a low one comes now", x.soonest(0, 48, 0), 0);
        Checks.same("and is through", x.soonest(0, 48, 1), 1);
        Checks.work(x, "shut 0;");
        Checks.same("never", x.soonest(1, 48, 0), -1);
        Checks.same("never through", x.soonest(1, 48, 1), -1);
        Checks.argument("soonest(10, 0, 0)", x, () -> x.soonest(10, 0, 0));
        Checks.argument("soonest(0, 49, 0)", x, () -> x.soonest(0, 49, 0));
        Checks.argument("soonest(0, -1, 0)", x, () -> x.soonest(0, -1, 0));
        Checks.argument("soonest(0, 0, 2)", x, () -> x.soonest(0, 0, 2));
        Checks.argument("soonest(0, 0, -1)", x, () -> x.soonest(0, 0, -1));
    }

    private static void holds() {
        LiddedRiver x = Checks.of(FIVE);
        Checks.same("all that are lower", x.hold(4, 0), 23);
        Checks.same("at noon at 0 and 1", x.hold(4, 12), 20);
        Checks.same("at noon at 2 and 3", x.hold(4, 11), 19);
        Checks.same("at noon at 4", x.hold(9, 10), 15);
        Checks.work(x, "lift 0;shut 4;");
        Checks.same("lifted and shut", x.hold(9, 10), 30);
        Checks.same("the latest", x.hold(9, 48), 30);
        Checks.argument("hold(10, 0)", x, () -> x.hold(10, 0));
        Checks.argument("hold(0, 49)", x, () -> x.hold(0, 49));
        Checks.argument("hold(0, -1)", x, () -> x.hold(0, -1));
        LiddedRiver slow = Checks.of("flow 1;" + "board 0 0 0;".repeat(16));
        Checks.same("one board an hour", slow.hold(1, 0), 65535 - 4096);
    }

    private static void tallest() {
        LiddedRiver x = Checks.of("board 5 1 1;board 7 1 1;");
        Checks.same("by the law all", x.tallest(0), 9);
        Checks.work(x, "shut 1;");
        Checks.same("below board 1", x.tallest(0), 7);
        Checks.work(x, "shut 0;");
        Checks.same("below board 0", x.tallest(48), 5);
        Checks.law(x, "day * 24 + hour - 238");
        Checks.work(x, "leave 0;");
        Checks.same("through board 0 at last, none behind it", x.tallest(0), 7);
        Checks.argument("tallest(49)", x, () -> x.tallest(49));
        Checks.argument("tallest(-1)", x, () -> x.tallest(-1));
    }

    private static void letters() {
        LiddedRiver x = Checks.of("flow 3;" + "board 0 0 0;".repeat(9));
        Checks.law(x, "1 - most[hour - 1, 1 - hour]");
        Checks.same("seen in an hour", x.letter(0, 0), 1);
        Checks.same("at board 3", x.letter(0, 1), 3);
        Checks.same("once", x.letter(0, 2), 1);
        Checks.same("it is behind the last one then", x.letter(6, 0), -1);
        Checks.same("nowhere", x.letter(6, 1), -1);
        Checks.same("never", x.letter(6, 2), 0);
        Checks.work(x, "lift 6;lift 5;");
        Checks.same("twice", x.letter(0, 2), 2);
        Checks.same("now, too", x.letter(6, 0), 0);
        Checks.same("here", x.letter(6, 1), 6);
        Checks.absent("letter(9, 3)", x, () -> x.letter(9, 3));
        Checks.absent("letter(-1, 0)", x, () -> x.letter(-1, 0));
        Checks.argument("letter(0, 3)", x, () -> x.letter(0, 3));
        Checks.argument("letter(0, -1)", x, () -> x.letter(0, -1));
    }

    private static void ahead() {
        LiddedRiver x = Checks.of(FIVE);
        Checks.work(x, "again 3 [hour;];lift 0;");
        Checks.same("now", x.ahead(0, 0), 1);
        Checks.same("fines now", x.ahead(0, 1), 0);
        Checks.same("knocks now", x.ahead(0, 2), 2);
        Checks.same("fines, not at noon", x.ahead(12, 1), 11);
        Checks.same("knocks, not at noon", x.ahead(12, 2), 13);
        Checks.same("through", x.ahead(240, 0), 2);
        Checks.same("fines in ten days", x.ahead(240, 1), 230);
        Checks.argument("ahead(241, 0)", x, () -> x.ahead(241, 0));
        Checks.argument("ahead(-1, 0)", x, () -> x.ahead(-1, 0));
        Checks.argument("ahead(0, 3)", x, () -> x.ahead(0, 3));
        Checks.argument("ahead(0, -1)", x, () -> x.ahead(0, -1));
    }

    private static void aheadByFines() {
        LiddedRiver x = Checks.of("board 0 0 0;board 0 0 0;");
        Checks.law(x, "5 - fined");
        Checks.work(x, "shut 0;hour;");
        Checks.same("it is fined till the law minds it no more", x.ahead(100, 1), 5);
        Checks.same("so it is in winters", x.winters(1, 0, 100, 3), 4);
    }

    private static void winters() {
        LiddedRiver x = Checks.of(FIVE);
        Checks.work(x, "again 3 [hour;];lift 0;shut 3;hour;leave 3;");
        Checks.same("without ice, through", x.winters(5, 0, 10, 0), 1);
        Checks.same("without ice, knocks in them", x.winters(5, 0, 10, 1), 9);
        Checks.same("without ice, none frozen", x.winters(5, 0, 10, 2), 0);
        Checks.same("without ice, fines in them", x.winters(5, 0, 10, 3), 9);
        Checks.same("all ice, knocks", x.winters(5, 16, 10, 1), 10);
        Checks.same("all ice, frozen", x.winters(5, 16, 10, 2), 14);
        Checks.same("all ice, no fines", x.winters(5, 16, 10, 3), 0);
        Checks.same("any seed", x.winters(Integer.MIN_VALUE, 16, 240, 3), 0);
        Checks.argument("winters(0, 17, 1, 0)", x, () -> x.winters(0, 17, 1, 0));
        Checks.argument("winters(0, -1, 1, 0)", x, () -> x.winters(0, -1, 1, 0));
        Checks.argument("winters(0, 0, 0, 0)", x, () -> x.winters(0, 0, 0, 0));
        Checks.argument("winters(0, 0, 241, 0)", x, () -> x.winters(0, 0, 241, 0));
        Checks.argument("winters(0, 0, 1, 4)", x, () -> x.winters(0, 0, 1, 4));
        Checks.argument("winters(0, 0, 1, -1)", x, () -> x.winters(0, 0, 1, -1));
    }

    /** Seed 1 becomes 1103527590 (bits 16 to 30: 16838, leaves 6), then 2524885223 (5758, leaves 14). */
    private static void wintersByHand() {
        LiddedRiver x = Checks.of("board 0 0 0;board 0 0 0;");
        Checks.work(x, "lift 0;lift 1;");
        Checks.same("6 is not below 6", x.winters(1, 6, 1, 2), 0);
        Checks.same("6 is below 7", x.winters(1, 7, 1, 2), 1);
        Checks.same("the other one is fined", x.winters(1, 7, 1, 3), 1);
        Checks.same("14 is not below 14", x.winters(1, 14, 1, 2), 1);
        Checks.same("14 is below 15", x.winters(1, 15, 1, 2), 2);
        Checks.same("a low mast passes below the ice", Checks.work(x, "leave 0;"), 1);
        LiddedRiver y = Checks.of("board 3 0 0;board 2 0 0;barge 3 0;");
        Checks.work(y, "lift 0;lift 1;");
        Checks.same("it is through without ice", y.winters(1, 7, 1, 0), 1);
        Checks.same("board 1 is frozen", y.winters(1, 15, 1, 0), 0);
        Checks.same("it knocks", y.winters(1, 15, 1, 1), 1);
    }

    private static void spans() {
        LiddedRiver x = Checks.of("board 3 0 0;board 2 0 0;barge 3 0;barge 3 94;");
        Checks.work(x, "lift 0;lift 1;");
        int fewest = 99;
        int most = -1;
        for (int seed = -3; seed < 17; seed++) {
            fewest = Math.min(fewest, x.winters(seed, 9, 5, 1));
            most = Math.max(most, x.winters(seed, 9, 5, 1));
        }
        Checks.same("fewest knocks", x.span(-3, 20, 9, 5, 0), fewest);
        Checks.same("most knocks", x.span(-3, 20, 9, 5, 1), most);
        Checks.same("seeds tell apart", fewest < most ? 1 : 0, 1);
        Checks.same("the second one is not there yet", x.span(-3, 20, 0, 94, 2), 0);
        Checks.same("both are through", x.span(-3, 20, 0, 95, 2), 20);
        Checks.same("seeds wrap", x.span(Integer.MAX_VALUE, 2, 9, 5, 1),
            Math.max(x.winters(Integer.MAX_VALUE, 9, 5, 1), x.winters(Integer.MIN_VALUE, 9, 5, 1)));
        Checks.argument("span(0, 0, 0, 1, 0)", x, () -> x.span(0, 0, 0, 1, 0));
        Checks.argument("span(0, 21, 0, 1, 0)", x, () -> x.span(0, 21, 0, 1, 0));
        Checks.argument("span(0, 1, 17, 1, 0)", x, () -> x.span(0, 1, 17, 1, 0));
        Checks.argument("span(0, 1, 0, 0, 0)", x, () -> x.span(0, 1, 0, 0, 0));
        Checks.argument("span(0, 1, 0, 241, 0)", x, () -> x.span(0, 1, 0, 241, 0));
        Checks.argument("span(0, 1, 0, 1, 3)", x, () -> x.span(0, 1, 0, 1, 3));
        Checks.argument("span(0, 1, 0, 1, -1)", x, () -> x.span(0, 1, 0, 1, -1));
    }

    private static void beyondTheLastHour() {
        LiddedRiver x = Checks.of("board 0 0 0;");
        for (int works = 0; works < 5; works++) {
            Checks.work(x, "again 60 [hour;hour;hour;hour;];");
        }
        Checks.same("hour 960", x.told(3), 960);
        Checks.work(x, "lift 0;");
        Checks.same("hours go by all the same", x.ahead(240, 1), 230);
        Checks.work(x, "leave 0;");
        Checks.same("noon comes", x.opens(0), 12);
        Checks.same("barges pass then", x.trip(1, 0, 0), 12);
    }

    private static void nothingStaysChanged() {
        LiddedRiver x = Checks.of(FIVE);
        Checks.law(x, "fined - 3");
        Checks.work(x, "hour;lift 1;shut 2;");
        int[] before = all(x);
        x.ahead(240, 0);
        x.winters(1, 8, 240, 0);
        x.span(1, 3, 8, 240, 0);
        x.trip(4, 0, 0);
        x.soonest(4, 48, 0);
        x.letter(0, 0);
        x.peak(0);
        int[] behind = all(x);
        for (int i = 0; i < before.length; i++) {
            Checks.same("what is told, number " + i, behind[i], before[i]);
        }
    }

    private static int[] all(LiddedRiver x) {
        int[] all = new int[10 + 5 * 8 + 2 * 5];
        for (int i = 0; i < 10; i++) {
            all[i] = x.told(i);
        }
        for (int i = 0; i < 40; i++) {
            all[10 + i] = x.board(i / 8, i % 8);
        }
        for (int i = 0; i < 10; i++) {
            all[50 + i] = x.barge(i / 5, i % 5);
        }
        return all;
    }
}
