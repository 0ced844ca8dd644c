/**
 * The edges of what would be (the document's part 3, promises 13 to 21, 31, 34 to 36): the first and the last HOUR that
 * is looked at, the latest coming, the last BOARD, HOURS beyond 960, no ice and nothing but ice.
 */
public final class AheadEdgesTest {
    private static final String ONE = "board 0 0 0;";
    private static final String SIXTEEN = "board 0 0 0;".repeat(16);

    public static void main(String[] args) {
        opens();
        often();
        busiest();
        busiestOfThisDay();
        busiestFinedAsNow();
        peak();
        lawfulFinedAsNow();
        tripsHours();
        tripsKnocks();
        tripsWithoutBoards();
        soonest();
        soonestOfAlikeTheLatest();
        hold();
        tallest();
        letters();
        lettersThatFlow();
        lettersSeenOften();
        ahead();
        aheadFinedByThen();
        beyondTheLastHour();
        noIceAndAllIce();
        draws();
        frozenBoards();
        winterHours();
        spans();
        spansKnocksOfTheWinters();
        spansWrap();
        Checks.end();
    }

    private static LiddedRiver openOnly(String river, int hour) {
        return HourEdgesTest.river(river, HourEdgesTest.only(hour));
    }

    /** "In how many HOURS (0: now; 240 at most) a BOARD is open; NONE". */
    private static void opens() {
        int[] due = {0, 1, 239, 240, -1};
        int[] hours = {0, 1, 239, 240, 241};
        for (int i = 0; i < due.length; i++) {
            Checks.same("opens in hour " + hours[i] + " alone", openOnly(ONE, hours[i]).opens(0), due[i]);
            LiddedRiver later = openOnly(ONE, hours[i] + 30);
            HourEdgesTest.pass(later, 30);
            Checks.same("thirty hours later", later.opens(0), due[i]);
        }
        LiddedRiver x = openOnly(ONE, 5);
        HourEdgesTest.pass(x, 6);
        Checks.same("it was", x.opens(0), -1);
        Checks.work(x, "lift 0;");
        Checks.same("lifted", x.opens(0), 0);
        LiddedRiver full = HourEdgesTest.river(SIXTEEN, "board + hour - 14");
        Checks.same("the last board", full.opens(15), 0);
        Checks.same("the first board", full.opens(0), 15);
    }

    /** "In how many HOURS (of 0 to n less 1, n 0 to 240) a BOARD is open". */
    private static void often() {
        LiddedRiver x = openOnly(ONE, 239);
        Checks.same("239 of 240", x.often(0, 240), 1);
        Checks.same("239 of 239", x.often(0, 239), 0);
        LiddedRiver y = openOnly(ONE, 240);
        Checks.same("240 of 240", y.often(0, 240), 0);
        LiddedRiver now = openOnly(ONE, 0);
        Checks.same("0 of none", now.often(0, 0), 0);
        Checks.same("0 of one", now.often(0, 1), 1);
        Checks.same("0 of 240", now.often(0, 240), 1);
        HourEdgesTest.pass(now, 1);
        Checks.same("gone by", now.often(0, 240), 0);
    }

    /** "The HOUR of the day (0 to 23, ..) in which most BOARDS are to be open by the LAW, of these the first". */
    private static void busiest() {
        Checks.same("without boards", new LiddedRiver().busiest(), 0);
        Checks.same("never", HourEdgesTest.river(ONE, "0").busiest(), 0);
        Checks.same("always", HourEdgesTest.river(ONE, "1").busiest(), 0);
        Checks.same("hour 23 alone", HourEdgesTest.river(SIXTEEN, "hour - 22").busiest(), 23);
        Checks.same("hour 0 alone", HourEdgesTest.river(SIXTEEN, "1 - hour").busiest(), 0);
        Checks.same("more at 15 than ahead", HourEdgesTest.river(SIXTEEN, "hour - board").busiest(), 16);
        Checks.same("two at 3, one ahead", HourEdgesTest.river(SIXTEEN, "least[hour - board - 1, 2 - board]").busiest(), 3);
        Checks.same("tomorrow alone", HourEdgesTest.river(ONE, "day").busiest(), 0);
        LiddedRiver shut = HourEdgesTest.river("board 0 0 0;board 0 0 0;", "hour - 22");
        Checks.work(shut, "shut 0;shut 1;");
        Checks.same("by the law alone", shut.busiest(), 23);
    }

    /** "this day's". */
    private static void busiestOfThisDay() {
        LiddedRiver x = HourEdgesTest.river(ONE, "(1-day)*least[hour-5,7-hour]+day*least[hour-8,10-hour]");
        Checks.same("day 0", x.busiest(), 6);
        HourEdgesTest.pass(x, 23);
        Checks.same("its last hour", x.busiest(), 6);
        HourEdgesTest.pass(x, 1);
        Checks.same("day 1", x.busiest(), 9);
        HourEdgesTest.pass(x, 23);
        Checks.same("its last hour", x.busiest(), 9);
        HourEdgesTest.pass(x, 1);
        Checks.law(x, "day - 1");
        Checks.same("day 2, all hours", x.busiest(), 0);
    }

    /** "fined (how often it was, by now)": the LAW is asked with the fines of now. */
    private static void busiestFinedAsNow() {
        LiddedRiver x = HourEdgesTest.river("board 0 0 0;board 0 0 0;", "fined * (hour - 9 - board)");
        Checks.same("not fined, never", x.busiest(), 0);
        Checks.work(x, "lift 1;hour;");
        Checks.same("the second one is fined", x.busiest(), 11);
        Checks.work(x, "lift 0;hour;");
        Checks.same("both are", x.busiest(), 11);
        Checks.work(x, "leave 0;leave 1;");
        Checks.same("and stay so", x.busiest(), 11);
        x.undo();
        x.undo();
        x.undo();
        Checks.same("not fined any more", x.busiest(), 0);
    }

    /** "In how many HOURS from now (0 to 239) most BOARDS are open, of these the first". */
    private static void peak() {
        LiddedRiver none = new LiddedRiver();
        Checks.same("without boards", none.peak(0) * 10 + none.peak(1), 0);
        int[] hours = {0, 1, 239, 240};
        int[] first = {0, 1, 239, 0};
        int[] many = {16, 16, 16, 0};
        for (int i = 0; i < hours.length; i++) {
            LiddedRiver x = openOnly(SIXTEEN, hours[i]);
            Checks.same("open in hour " + hours[i] + " alone", x.peak(0), first[i]);
            Checks.same("how many", x.peak(1), many[i]);
        }
        LiddedRiver lifted = HourEdgesTest.river(ONE, "0");
        Checks.work(lifted, "lift 0;");
        Checks.same("lifted, from now on", lifted.peak(0), 0);
        LiddedRiver alike = HourEdgesTest.river(ONE, "hour - 4");
        Checks.same("of alike ones the first", alike.peak(0), 5);
        HourEdgesTest.pass(alike, 7);
        Checks.same("now", alike.peak(0), 0);
        Checks.work(alike, "shut 0;");
        Checks.same("shut", alike.peak(1), 0);
    }

    /** "in an HOUR of the day (0 to 23) of a day (0 to 99), fined as now". */
    private static void lawfulFinedAsNow() {
        LiddedRiver x = HourEdgesTest.river(SIXTEEN, "fined");
        Checks.work(x, "lift 15;hour;");
        Checks.same("fined once", x.lawful(15, 0, 0) ? 1 : 0, 1);
        Checks.same("not fined", x.lawful(14, 23, 99) ? 1 : 0, 0);
        Checks.law(x, "fined - 1");
        Checks.same("no more than once, whatever the day", x.lawful(15, 23, 99) ? 1 : 0, 0);
        Checks.law(x, "day - 98");
        Checks.same("day 98", x.lawful(0, 23, 98) ? 1 : 0, 0);
        Checks.same("day 99", x.lawful(0, 0, 99) ? 1 : 0, 1);
        Checks.law(x, "day * 24 + hour");
        Checks.same("the first hour", x.lawful(0, 0, 0) ? 1 : 0, 0);
        Checks.same("the second", x.lawful(0, 1, 0) ? 1 : 0, 1);
    }

    /** "in which HOUR it is THROUGH (of the 240 from now on, this one first; NONE)". */
    private static void tripsHours() {
        int[] hours = {0, 1, 48, 238, 239, 240, 241};
        int[] due = {0, 1, 48, 238, 239, -1, -1};
        for (int i = 0; i < hours.length; i++) {
            Checks.same("open in hour " + hours[i] + " alone", openOnly(ONE, hours[i]).trip(9, 0, 0), due[i]);
            LiddedRiver later = openOnly(ONE, hours[i] + 30);
            HourEdgesTest.pass(later, 30);
            Checks.same("thirty hours later", later.trip(9, 0, 0), due[i]);
        }
        Checks.same("it comes as it opens", openOnly(ONE, 48).trip(9, 48, 0), 48);
        Checks.same("it comes too late", openOnly(ONE, 47).trip(9, 48, 0), -1);
        LiddedRiver slow = HourEdgesTest.river("flow 1;" + SIXTEEN, "0");
        Checks.same("one board an hour", slow.trip(0, 0, 0), 15);
        Checks.same("one board an hour, from the latest on", slow.trip(0, 48, 0), 63);
        LiddedRiver fast = HourEdgesTest.river("flow 4;" + SIXTEEN, "0");
        Checks.same("four boards an hour", fast.trip(0, 0, 0), 3);
        Checks.same("four boards an hour, from the latest on", fast.trip(0, 48, 0), 51);
        LiddedRiver last = HourEdgesTest.river("flow 1;" + SIXTEEN, "day * 24 + hour - 223");
        Checks.same("sixteen boards in the last sixteen hours", last.trip(9, 0, 0), 239);
        Checks.law(last, "day * 24 + hour - 224");
        Checks.same("they begin an hour too late", last.trip(9, 0, 0), -1);
        Checks.same("knocks till then", last.trip(9, 0, 1), 225);
    }

    /** "how often it KNOCKS by then (by 240 HOURS, if it is not), 2 the BOARD at which it KNOCKS most, of these the first". */
    private static void tripsKnocks() {
        LiddedRiver once = HourEdgesTest.river("board 9 0 0;board 0 0 0;board 9 0 0;", "hour");
        Checks.same("one knock", once.trip(9, 0, 1), 1);
        Checks.same("where", once.trip(9, 0, 2), 1);
        LiddedRiver never = HourEdgesTest.river("board 9 0 0;board 0 0 0;", "0");
        Checks.same("not through", never.trip(1, 0, 0), -1);
        Checks.same("knocks from now on", never.trip(1, 0, 1), 240);
        Checks.same("knocks from the latest on", never.trip(1, 48, 1), 192);
        Checks.same("where", never.trip(1, 48, 2), 1);
        LiddedRiver alike = HourEdgesTest.river("flow 1;board 0 0 0;board 0 0 0;", "hour % 2");
        Checks.same("once each", alike.trip(1, 0, 1), 2);
        Checks.same("of these the first", alike.trip(1, 0, 2), 0);
        LiddedRiver second = HourEdgesTest.river("flow 1;board 0 0 0;board 0 0 0;", "most[board*hour-4,hour*(1-board)]");
        Checks.same("once at the first, three times at the second", second.trip(1, 0, 1), 4);
        Checks.same("most at the second", second.trip(1, 0, 2), 1);
    }

    /** "without BOARDS they are THROUGH at once". */
    private static void tripsWithoutBoards() {
        LiddedRiver x = new LiddedRiver();
        for (int t : new int[] {0, 1, 48}) {
            Checks.same("through", x.trip(9, t, 0), t);
            Checks.same("knocks", x.trip(9, t, 1), 0);
            Checks.same("nowhere", x.trip(9, t, 2), -1);
        }
        Checks.same("soonest comes now", x.soonest(9, 48, 0), 0);
        Checks.same("soonest through now", x.soonest(9, 48, 1), 0);
        Checks.same("hold", x.hold(9, 48), 0);
        Checks.same("tallest", x.tallest(48), 9);
    }

    /** "of t from now to n HOURS later (n 0 to 48) the one by which it is THROUGH first". */
    private static void soonest() {
        int[] hours = {0, 1, 47, 48, 49, 239, 240};
        int[] comes = {0, 1, 47, 48, 48, 48, -1};
        int[] through = {0, 1, 47, 48, 49, 239, -1};
        for (int i = 0; i < hours.length; i++) {
            LiddedRiver x = openOnly(ONE, hours[i]);
            Checks.same("open in hour " + hours[i] + " alone, comes", x.soonest(9, 48, 0), comes[i]);
            Checks.same("open in hour " + hours[i] + " alone, through", x.soonest(9, 48, 1), through[i]);
        }
        LiddedRiver early = openOnly(ONE, 48);
        Checks.same("by 47", early.soonest(9, 47, 0), 47);
        Checks.same("by 0", early.soonest(9, 0, 0), 0);
        Checks.same("by 0, through", early.soonest(9, 0, 1), 48);
    }

    /** "of these the latest t". */
    private static void soonestOfAlikeTheLatest() {
        LiddedRiver x = HourEdgesTest.river("flow 1;board 9 0 0;board 0 0 0;board 9 0 0;", "1 - most[hour - 9, 9 - hour]");
        Checks.same("it comes an hour ahead", x.soonest(9, 48, 0), 8);
        Checks.same("through an hour behind", x.soonest(9, 48, 1), 10);
        Checks.same("it may come later, but is not through first", x.trip(9, 32, 0), 34);
        LiddedRiver free = HourEdgesTest.river(ONE, "1");
        Checks.same("one that never waits comes now", free.soonest(9, 48, 0), 0);
    }

    /** "were it never to wait (V BOARDS each HOUR from t on), the BOARDS that would not let it pass as it comes to them". */
    private static void hold() {
        Checks.same("the first board, latest coming", openOnly("flow 1;" + SIXTEEN, 48).hold(9, 48), 65534);
        Checks.same("the last board, latest coming", openOnly("flow 1;" + SIXTEEN, 63).hold(9, 48), 32767);
        Checks.same("behind the last board", openOnly("flow 1;" + SIXTEEN, 64).hold(9, 48), 65535);
        Checks.same("the first board, now", openOnly("flow 1;" + SIXTEEN, 0).hold(9, 0), 65534);
        Checks.same("the last board, now", openOnly("flow 1;" + SIXTEEN, 15).hold(9, 0), 32767);
        Checks.same("four an hour, the first ones", openOnly("flow 4;" + SIXTEEN, 0).hold(9, 0), 65535 - 15);
        Checks.same("four an hour, the last ones", openOnly("flow 4;" + SIXTEEN, 3).hold(9, 0), 4095);
        Checks.same("three an hour, the last one", openOnly("flow 3;" + SIXTEEN, 5).hold(9, 0), 32767);
        LiddedRiver x = HourEdgesTest.river("board 4 0 0;board 5 0 0;", "0");
        Checks.same("no more than clear", x.hold(4, 0), 0);
        Checks.same("one more", x.hold(5, 0), 1);
        Checks.same("one more than both", x.hold(6, 0), 3);
        Checks.same("the lowest", x.hold(0, 48), 0);
    }

    /** "the greatest m (0 to 9) that is THROUGH". */
    private static void tallest() {
        for (int clear = 0; clear <= 9; clear++) {
            LiddedRiver x = HourEdgesTest.river("board " + clear + " 0 0;board 9 0 0;", "0");
            Checks.same("clear " + clear, x.tallest(0), clear);
            Checks.same("clear " + clear + ", latest coming", x.tallest(48), clear);
        }
        Checks.same("open in the last hour", openOnly(ONE, 239).tallest(48), 9);
        Checks.same("open in the next one", openOnly(ONE, 240).tallest(48), 0);
        Checks.same("open ahead of its coming", openOnly(ONE, 47).tallest(48), 0);
        Checks.same("open as it comes", openOnly(ONE, 48).tallest(48), 9);
    }

    /** "0 in how many HOURS it is SEEN first, 1 at which BOARD, 2 how often till it is behind the last BOARD". */
    private static void letters() {
        LiddedRiver last = openOnly("flow 1;" + SIXTEEN, 15);
        Checks.same("from the first to the last board", last.letter(0, 0), 15);
        Checks.same("at the last", last.letter(0, 1), 15);
        Checks.same("once", last.letter(0, 2), 1);
        Checks.same("a board farther it is behind the last", last.letter(1, 2), 0);
        LiddedRiver behind = openOnly("flow 1;" + SIXTEEN, 16);
        Checks.same("an hour later", behind.letter(0, 0), -1);
        Checks.same("an hour later, where", behind.letter(0, 1), -1);
        Checks.same("an hour later, how often", behind.letter(0, 2), 0);
        LiddedRiver now = openOnly(SIXTEEN, 0);
        Checks.same("now, at the last board", now.letter(15, 0), 0);
        Checks.same("at it", now.letter(15, 1), 15);
        Checks.same("once", now.letter(15, 2), 1);
        Checks.same("now, at the first board", now.letter(0, 1), 0);
    }

    /** "is V BOARDS farther each HOUR". */
    private static void lettersThatFlow() {
        int[] seen = {16, 8, 6, 4};
        for (int v = 1; v <= 4; v++) {
            LiddedRiver x = HourEdgesTest.river("flow " + v + ";" + SIXTEEN, "1");
            Checks.same("flow " + v + " from the first", x.letter(0, 2), seen[v - 1]);
            Checks.same("flow " + v + " from the last", x.letter(15, 2), 1);
            Checks.same("flow " + v + " from the last but V", x.letter(15 - v, 2), 2);
            Checks.same("flow " + v + " from the last but one less", x.letter(16 - v, 2), 1);
        }
        LiddedRiver x = openOnly("flow 4;" + SIXTEEN, 3);
        Checks.same("from 3 to the last", x.letter(3, 1), 15);
        Checks.same("from 4 it is behind it", x.letter(4, 1), -1);
        Checks.same("from 0", x.letter(0, 1), 12);
    }

    /** "in how many HOURS it is SEEN first, 1 at which BOARD", however often it is seen behind that. */
    private static void lettersSeenOften() {
        LiddedRiver always = HourEdgesTest.river("flow 3;" + SIXTEEN, "1");
        Checks.same("always: now", always.letter(4, 0), 0);
        Checks.same("here", always.letter(4, 1), 4);
        Checks.same("at 4, 7, 10, 13", always.letter(4, 2), 4);
        LiddedRiver odd = HourEdgesTest.river("flow 2;" + SIXTEEN, "hour % 2");
        Checks.same("in odd hours: the next", odd.letter(1, 0), 1);
        Checks.same("at the board it is at then", odd.letter(1, 1), 3);
        Checks.same("at 3, 7, 11, 15", odd.letter(1, 2), 4);
        HourEdgesTest.pass(odd, 1);
        Checks.same("an hour later: now", odd.letter(1, 0), 0);
        Checks.same("here", odd.letter(1, 1), 1);
        Checks.same("at 1, 5, 9, 13", odd.letter(1, 2), 4);
    }

    /** "In so many HOURS (0 to 240): 0 BARGES THROUGH, 1 fines in all, 2 KNOCKS in all". */
    private static void ahead() {
        LiddedRiver x = openOnly(ONE + "barge 9 0;", 239);
        Checks.same("the last hour has not gone by", x.ahead(239, 0), 0);
        Checks.same("it has", x.ahead(240, 0), 1);
        Checks.same("knocks ahead of it", x.ahead(240, 2), 239);
        Checks.same("knocks by then", x.ahead(239, 2), 239);
        Checks.same("knocks in none", x.ahead(0, 2), 0);
        Checks.same("knocks in one", x.ahead(1, 2), 1);
        Checks.work(x, "lift 0;");
        Checks.same("fines, not in the last hour", x.ahead(240, 1), 239);
        Checks.same("fines in none", x.ahead(0, 1), 0);
        HourEdgesTest.pass(x, 2);
        Checks.same("fines by now, in none", x.ahead(0, 1), 2);
        Checks.same("through by now, in none", x.ahead(0, 0), 1);
        Checks.same("fines in all", x.ahead(238, 1), 239);
        Checks.same("fines in the next ones too", x.ahead(240, 1), 241);
        LiddedRiver none = new LiddedRiver();
        Checks.same("nothing there", none.ahead(240, 0) + none.ahead(240, 1) + none.ahead(240, 2), 0);
    }

    /** ""fined" (how often it was, by now)": by the HOUR that goes by, of each BOARD alone. */
    private static void aheadFinedByThen() {
        LiddedRiver x = HourEdgesTest.river("board 0 0 0;board 0 0 0;", "fined + board");
        Checks.work(x, "lift 0;lift 1;");
        Checks.same("the first hour's fine", x.ahead(1, 1), 1);
        Checks.same("none behind it", x.ahead(240, 1), 1);
        Checks.same("none in winters", x.winters(1, 0, 240, 3), 1);
        LiddedRiver alone = HourEdgesTest.river(ONE, "fined");
        Checks.work(alone, "lift 0;");
        Checks.same("a fine, and none behind it", alone.ahead(240, 1), 1);
        Checks.work(alone, "again 3 [hour;];shut 0;");
        Checks.same("shut, it is fined each hour", alone.ahead(240, 1), 241);
        LiddedRiver full = HourEdgesTest.river(SIXTEEN + "barge 9 0;", "fined");
        Checks.work(full, "lift 15;");
        Checks.same("of sixteen the last, once", full.ahead(240, 1), 1);
        Checks.same("knocks at the first are no fines", full.ahead(240, 2), 240);
    }

    /** "HOURS go by as by hour (beyond 960, too)". */
    private static void beyondTheLastHour() {
        LiddedRiver x = openOnly(ONE + "barge 9 0;", 1199);
        HourEdgesTest.passAll(x);
        Checks.same("opens", x.opens(0), 239);
        Checks.same("often", x.often(0, 240), 1);
        Checks.same("peak", x.peak(0), 239);
        Checks.same("trip", x.trip(9, 48, 0), 239);
        Checks.same("soonest", x.soonest(9, 48, 0), 48);
        Checks.same("tallest", x.tallest(0), 9);
        Checks.same("ahead, the last hour has not gone by", x.ahead(239, 0), 0);
        Checks.same("ahead, it has", x.ahead(240, 0), 1);
        Checks.same("winters", x.winters(1, 0, 240, 0), 1);
        Checks.same("span", x.span(1, 20, 0, 240, 2), 20);
        Checks.same("hour 960 still", x.told(3), 960);
        Checks.law(x, "day - 49");
        Checks.same("day 50 begins in 240 hours", x.opens(0), 240);
        Checks.law(x, "day - 40");
        Checks.same("day 40 is now, 41 in 24 hours", x.opens(0), 24);
        Checks.law(x, HourEdgesTest.only(961));
        Checks.same("letter", x.letter(0, 0), -1);
        Checks.same("hold in an hour", x.hold(9, 1), 0);
        Checks.same("hold now", x.hold(9, 0), 1);
    }

    /** "DRAW by 16 below Q": none is below 0, all are below 16. */
    private static void noIceAndAllIce() {
        LiddedRiver x = Checks.of("board 0 0 0;board 0 0 0;barge 1 0;");
        Checks.work(x, "lift 0;lift 1;");
        for (int seed : new int[] {0, 1, -1, Integer.MIN_VALUE, Integer.MAX_VALUE}) {
            Checks.same("no ice, through", x.winters(seed, 0, 1, 0), 1);
            Checks.same("no ice, knocks", x.winters(seed, 0, 240, 1), 0);
            Checks.same("no ice, frozen", x.winters(seed, 0, 240, 2), 0);
            Checks.same("no ice, fines", x.winters(seed, 0, 24, 3), 46);
            Checks.same("all ice, through", x.winters(seed, 16, 240, 0), 0);
            Checks.same("all ice, knocks", x.winters(seed, 16, 240, 1), 240);
            Checks.same("all ice, frozen", x.winters(seed, 16, 240, 2), 480);
            Checks.same("all ice, fines", x.winters(seed, 16, 240, 3), 0);
        }
    }

    /** The document's DRAW, by numbers of 64 bits. */
    private static int frozenOf(int seed, int q, int boards, int hours) {
        long now = seed & 0xFFFFFFFFL;
        int frozen = 0;
        for (int draws = 0; draws < boards * hours; draws++) {
            now = (now * 1103515245L + 12345L) % (1L << 32);
            frozen += now / 65536 % 32768 % 16 < q ? 1 : 0;
        }
        return frozen;
    }

    /** "the SEED (32 bits) becomes itself times 1,103,515,245, and 12,345 (it wraps); its bits 16 to 30". */
    private static void draws() {
        LiddedRiver x = Checks.of("board 0 0 0;board 0 0 0;board 0 0 0;");
        Checks.work(x, "lift 0;lift 1;lift 2;");
        int[] seeds = {0, 1, -1, 12345, Integer.MIN_VALUE, Integer.MAX_VALUE, 1 << 16, 65535};
        for (int seed : seeds) {
            for (int q = 0; q <= 16; q++) {
                Checks.same("seed " + seed + ", Q " + q, x.winters(seed, q, 1, 2), frozenOf(seed, q, 3, 1));
                Checks.same("ten hours", x.winters(seed, q, 10, 2), frozenOf(seed, q, 3, 10));
            }
            Checks.same("240 hours", x.winters(seed, 8, 240, 2), frozenOf(seed, 8, 3, 240));
        }
    }

    /** "it is frozen in this HOUR: not open, whatever else, and not fined in it". */
    private static void frozenBoards() {
        LiddedRiver x = Checks.of("board 3 0 0;board 2 0 0;board 9 0 0;barge 2 0;barge 3 0;barge 4 0;flow 4;");
        Checks.work(x, "lift 0;shut 1;");
        Checks.same("low enough to pass below", x.winters(1, 16, 1, 0), 1);
        Checks.same("the others knock", x.winters(1, 16, 1, 1), 2);
        Checks.same("shut ones and left ones would not have been open", x.winters(1, 16, 1, 2), 1);
        Checks.same("at noon the left one would", x.winters(1, 16, 13, 2), 14);
        Checks.same("none is fined, not the shut one at noon", x.winters(1, 16, 13, 3), 0);
        Checks.same("without ice all are", x.winters(1, 0, 13, 3), 13);
        HourEdgesTest.pass(x, 3);
        Checks.same("fines in them alone", x.winters(1, 0, 1, 3), 1);
        Checks.same("knocks in them alone", x.winters(1, 0, 1, 1), x.ahead(1, 2) - x.ahead(0, 2));
        Checks.same("through by now, too", x.winters(1, 16, 1, 0), x.told(7));
    }

    /** "WINTERS of so many HOURS (1 to 240)". */
    private static void winterHours() {
        LiddedRiver x = openOnly(ONE + "barge 9 0;", 239);
        Checks.same("the last hour has not gone by", x.winters(7, 0, 239, 0), 0);
        Checks.same("it has", x.winters(7, 0, 240, 0), 1);
        Checks.same("knocks", x.winters(7, 0, 240, 1), 239);
        Checks.same("frozen then", x.winters(7, 16, 240, 2), 1);
        Checks.same("frozen ahead of it", x.winters(7, 16, 239, 2), 0);
        LiddedRiver none = Checks.of("barge 9 0;barge 9 95;");
        Checks.same("without boards, one", none.winters(1, 16, 95, 0), 1);
        Checks.same("without boards, both", none.winters(1, 16, 96, 0), 2);
    }

    /** "Of so many SEEDS (1 to 20; seed, seed and 1, ..)". */
    private static void spans() {
        LiddedRiver x = Checks.of("board 0 0 0;board 0 0 0;barge 1 0;barge 1 2;");
        Checks.work(x, "lift 0;lift 1;");
        int fewest = Integer.MAX_VALUE;
        int most = -1;
        int all = 0;
        for (int many = 1; many <= 20; many++) {
            int knocks = x.winters(99 + many, 11, 4, 1);
            fewest = Math.min(fewest, knocks);
            most = Math.max(most, knocks);
            all += x.winters(99 + many, 11, 4, 0) == 2 ? 1 : 0;
            Checks.same("fewest of " + many, x.span(100, many, 11, 4, 0), fewest);
            Checks.same("most of " + many, x.span(100, many, 11, 4, 1), most);
            Checks.same("all through by, of " + many, x.span(100, many, 11, 4, 2), all);
        }
        Checks.same("they are not all alike", fewest < most && all > 0 && all < 20 ? 1 : 0, 1);
        LiddedRiver none = Checks.of(ONE);
        Checks.same("without barges all are through", none.span(1, 20, 16, 240, 2), 20);
        Checks.same("and none knocks", none.span(1, 20, 16, 240, 1), 0);
    }

    /** "1 KNOCKS in them": those ahead of the WINTERS are not counted, neither by winters nor by span. */
    private static void spansKnocksOfTheWinters() {
        LiddedRiver x = HourEdgesTest.river(ONE + "barge 1 0;barge 1 0;", "0");
        HourEdgesTest.pass(x, 5);
        Checks.same("knocks by now", x.told(6), 10);
        Checks.same("in seven hours", x.winters(1, 3, 7, 1), 14);
        Checks.same("the fewest", x.span(1, 20, 3, 7, 0), 14);
        Checks.same("the most", x.span(1, 20, 3, 7, 1), 14);
        Checks.work(x, "lift 0;hour;");
        Checks.same("both are through", x.told(7), 2);
        Checks.same("none knocks any more", x.span(1, 20, 16, 240, 1), 0);
        Checks.same("by all of them all are through", x.span(1, 20, 16, 1, 2), 20);
    }

    /** A SEED has 32 bits: behind the greatest comes the least. */
    private static void spansWrap() {
        LiddedRiver x = Checks.of(SIXTEEN + "flow 4;barge 1 0;barge 1 2;barge 1 4;");
        for (int board = 0; board < 16; board += 4) {
            Checks.work(x, "lift " + board + ";lift " + (board + 1) + ";lift " + (board + 2) + ";lift " + (board + 3) + ";");
        }
        int fewest = Integer.MAX_VALUE;
        int most = -1;
        for (int more = 0; more < 20; more++) {
            int knocks = x.winters(Integer.MAX_VALUE - 3 + more, 3, 12, 1);
            fewest = Math.min(fewest, knocks);
            most = Math.max(most, knocks);
        }
        Checks.same("fewest", x.span(Integer.MAX_VALUE - 3, 20, 3, 12, 0), fewest);
        Checks.same("most", x.span(Integer.MAX_VALUE - 3, 20, 3, 12, 1), most);
        Checks.same("behind the greatest the least", x.span(Integer.MAX_VALUE, 2, 3, 12, 1),
            Math.max(x.winters(Integer.MAX_VALUE, 3, 12, 1), x.winters(Integer.MIN_VALUE, 3, 12, 1)));
    }
}
