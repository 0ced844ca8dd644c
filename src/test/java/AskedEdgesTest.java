/**
 * The edges of what is asked of the river as it is (promises 9 to 12, 22 to 30, 32, 33): nothing told yet and all that
 * fits, just enough and one too few, of alike ones the first.
 */
public final class AskedEdgesTest {
    private static final String SIXTEEN = "board 0 0 0;".repeat(16);

    public static void main(String[] args) {
        nothingTold();
        toldOfAllThatFits();
        streetsJustHold();
        streetsFromTo();
        floodsJustHold();
        floodsFewestThenLeast();
        floodsOfEightStreets();
        holdsByToldBoardsAlone();
        smellsFarther();
        smellsByK();
        openersWithoutBook();
        openersOfOneBoard();
        openersOfNone();
        openersOfFullBook();
        openersByAllTried();
        nose();
        noseOfAlikeTheFirst();
        anglersNoneAndFour();
        anglersCut();
        anglersOfAlikeTheFirst();
        anglersByAllTried();
        walksBearJustSo();
        walksLeap();
        walksOverSixteen();
        reach();
        narrow();
        worst();
        Checks.end();
    }

    /** "A RIVER without CLAUSES". */
    private static void nothingTold() {
        LiddedRiver x = new LiddedRiver();
        for (int what = 0; what <= 9; what++) {
            Checks.same("told(" + what + ")", x.told(what), 0);
        }
        Checks.same("flood", x.flood(0), 0);
        Checks.same("holds", x.holds(0), 0);
        Checks.same("openers: the empty set", x.openers(0), 1);
        Checks.same("the first", x.openers(1), 0);
        Checks.same("in all", x.openers(2), 0);
        Checks.same("in none", x.openers(3), 0);
        Checks.same("nose", x.nose(0), -1);
        Checks.same("nose, left", x.nose(1), -1);
        Checks.same("no anglers", x.anglers(0, 0), 1);
        Checks.same("no anglers have", x.anglers(0, 1), 0);
        for (int k = 1; k <= 4; k++) {
            Checks.same("anglers", x.anglers(k, 0), 0);
            Checks.same("anglers have", x.anglers(k, 1), -1);
        }
        Checks.same("narrow", x.narrow(9, 0), 0);
        Checks.same("longest row", x.narrow(0, 1), 0);
        Checks.same("its first", x.narrow(0, 2), -1);
        Checks.same("fined most", x.worst(0), -1);
        Checks.same("knocked at most", x.worst(1), -1);
        Checks.same("works without boards", Checks.work(x, "hour;again 2 [hour;];"), 3);
        Checks.same("hours", x.told(3), 3);
        Checks.same("a law without boards", Checks.law(x, "1"), 1);
        Checks.same("a book without boards", x.book(0), 0);
        x.river(0);
        Checks.same("the same told as a text", x.openers(0) + x.told(0) + x.told(3), 1);
    }

    /** Sixteen BOARDS, four BARGES, eight STREETS, told from the first to the last. */
    private static void toldOfAllThatFits() {
        LiddedRiver x = Checks.of("board 9 20 9;".repeat(16) + "barge 9 0;".repeat(4) + "street 15 15 9;".repeat(8) + "fish 15 40;");
        Checks.law(x, "board - 14");
        int[] due = {16, 4, 8, 0, 1, 0, 0, 0, 0, 0};
        for (int what = 0; what <= 9; what++) {
            Checks.same("told(" + what + ")", x.told(what), due[what]);
        }
        Checks.same("the last board is open", x.board(15, 5), 1);
        Checks.same("the last board's fish", x.board(15, 3), 40);
        Checks.same("the last street holds", x.street(7, 3), 1);
        for (int board = 0; board < 15; board++) {
            Checks.work(x, "lift " + board + ";");
        }
        Checks.same("all are open", x.told(4), 16);
        Checks.same("a last work", Checks.work(x, "shut 15;again 8 [hour;];"), 9);
        Checks.same("fines", x.told(5), 16 * 8);
        Checks.same("barges through", x.told(7), 4);
        Checks.same("the last one in hour 7", x.barge(3, 4), 7);
        Checks.same("the last street holds no more", x.street(7, 3), 0);
    }

    /** "if DRAINS of its lifted BOARDS together are no less than N". */
    private static void streetsJustHold() {
        for (int n = 1; n <= 20; n++) {
            LiddedRiver x = HourEdgesTest.river("board 0 0 9;board 0 0 1;street 0 1 " + n + ";", "0");
            Checks.work(x, "lift 0;");
            Checks.same("9 for " + n, x.street(0, 3), n <= 9 ? 1 : 0);
            Checks.work(x, "lift 1;");
            Checks.same("10 for " + n, x.street(0, 3), n <= 10 ? 1 : 0);
            Checks.same("holds, 9 for " + n, x.holds(1), n <= 9 ? 1 : 0);
            Checks.same("holds, 10 for " + n, x.holds(3), n <= 10 ? 1 : 0);
            Checks.same("flood for " + n, x.flood(1), n <= 9 ? 1 : n == 10 ? 3 : -1);
        }
        LiddedRiver dry = HourEdgesTest.river("board 0 0 0;street 0 0 1;", "1");
        Checks.same("one that drains nothing", dry.street(0, 3), 0);
        Checks.same("nor by a flood", dry.flood(1), -1);
        Checks.same("forty of 45", HourEdgesTest.river("board 0 0 9;".repeat(5) + "street 0 4 40;", "0").flood(1), 31);
    }

    /** "of BOARDS F to T". */
    private static void streetsFromTo() {
        LiddedRiver x = Checks.of("board 0 0 1;".repeat(16) + "street 0 0 1;street 15 15 1;street 3 5 3;street 0 15 16;street 3 5 1;");
        Checks.same("the first", x.holds(1), 1);
        Checks.same("the last", x.holds(32768), 2);
        Checks.same("ahead of and behind it", x.holds(4 + 64), 0);
        Checks.same("its first", x.holds(8), 16);
        Checks.same("its last", x.holds(32), 16);
        Checks.same("all of it", x.holds(56), 16 + 4);
        Checks.same("all but one", x.holds(65534), 2 + 4 + 16);
        Checks.same("all", x.holds(65535), 31);
        Checks.same("none", x.holds(0), 0);
    }

    /** "NONE: not by all". */
    private static void floodsJustHold() {
        LiddedRiver x = Checks.of("board 0 0 2;".repeat(16) + "street 0 15 32;street 0 15 33;street 0 7 16;street 0 7 17;street 9 9 2;street 9 9 3;");
        Checks.same("by all just", x.flood(1), 65535);
        Checks.same("not by all", x.flood(2), -1);
        Checks.same("by its own just", x.flood(4), 255);
        Checks.same("not by its own", x.flood(8), -1);
        Checks.same("by one just", x.flood(16), 512);
        Checks.same("not by one", x.flood(32), -1);
        Checks.same("one that does not hold among others", x.flood(63), -1);
        Checks.same("those that hold", x.flood(1 + 4 + 16), 65535);
        Checks.same("two apart", x.flood(4 + 16), 255 + 512);
        Checks.same("none", x.flood(0), 0);
        Checks.same("none counts twice", Checks.of("board 0 0 1;board 0 0 1;board 0 0 4;street 0 2 6;").flood(1), 7);
    }

    /** "the fewest BOARDS ..; of alike ones the least bits". */
    private static void floodsFewestThenLeast() {
        LiddedRiver x = Checks.of("board 0 0 1;board 0 0 1;board 0 0 2;street 0 2 2;street 0 2 3;street 0 2 1;");
        Checks.same("one ahead of two", x.flood(1), 4);
        Checks.same("of two the least bits", x.flood(2), 5);
        Checks.same("of one the least bits", x.flood(4), 1);
        LiddedRiver y = Checks.of("board 0 0 5;board 0 0 5;board 0 0 5;board 0 0 5;street 0 1 5;street 1 2 5;street 2 3 5;");
        Checks.same("one for two streets", y.flood(3), 2);
        Checks.same("two for three streets", y.flood(7), 5);
        Checks.same("two apart", y.flood(5), 5);
    }

    /** All STREETS that fit. */
    private static void floodsOfEightStreets() {
        LiddedRiver x = Checks.of("board 0 0 3;".repeat(16) + "street 0 1 1;street 2 3 1;street 4 5 1;street 6 7 1;street 8 9 1;"
            + "street 10 11 1;street 12 13 1;street 14 15 1;");
        Checks.same("all, of each pair the first", x.flood(255), 0x5555);
        Checks.same("the last alone", x.flood(128), 1 << 14);
        Checks.argument("a ninth", x, () -> x.flood(256));
        Checks.argument("below none", x, () -> x.flood(-1));
        Checks.argument("the least", x, () -> x.flood(Integer.MIN_VALUE));
    }

    /** "were told BOARDS (bits) open alone". */
    private static void holdsByToldBoardsAlone() {
        LiddedRiver x = HourEdgesTest.river("board 0 0 5;board 0 0 5;street 0 1 5;", "1");
        Checks.work(x, "lift 0;");
        Checks.same("none told, though all are open", x.holds(0), 0);
        Checks.same("by now", x.street(0, 3), 1);
        Checks.work(x, "shut 0;shut 1;");
        Checks.same("told, though all are shut", x.holds(2), 1);
    }

    /** "K and 1, less b less x, if b is no less than x and no more than K farther". */
    private static void smellsFarther() {
        for (int k = 0; k <= 4; k++) {
            LiddedRiver x = Checks.of("smell " + k + ";" + SIXTEEN);
            for (int b : new int[] {0, 1, 4, 5, 14, 15}) {
                for (int opened = 0; opened < 16; opened++) {
                    int due = b >= opened && b - opened <= k ? k + 1 - (b - opened) : 0;
                    Checks.same("K " + k + ", " + opened + " smelt at " + b, x.smells(b, 1 << opened), due);
                }
            }
        }
    }

    /** "(0 to 4; 2 without ..)", "all together". */
    private static void smellsByK() {
        int[] all = {1, 3, 6, 10, 15};
        for (int k = 0; k <= 4; k++) {
            LiddedRiver x = Checks.of("smell " + k + ";" + SIXTEEN);
            Checks.same("all, at the last", x.smells(15, 65535), all[k]);
            Checks.same("all, at the first", x.smells(0, 65535), k + 1);
            Checks.same("none", x.smells(15, 0), 0);
        }
        Checks.same("without", Checks.of(SIXTEEN).smells(15, 65535), 6);
    }

    /** "sets of BOARDS by which the BOOK is right in all lines": all of them, if there are no lines. */
    private static void openersWithoutBook() {
        for (int boards = 0; boards <= 16; boards++) {
            for (int k : new int[] {0, 2, 4}) {
                LiddedRiver x = Checks.of("smell " + k + ";" + "board 0 0 0;".repeat(boards));
                String what = boards + " boards, K " + k;
                Checks.same(what + ", sets", x.openers(0), 1 << boards);
                Checks.same(what + ", the empty one first", x.openers(1), 0);
                Checks.same(what + ", in all", x.openers(2), 0);
                Checks.same(what + ", in none", x.openers(3), 0);
            }
        }
    }

    private static void openersOfOneBoard() {
        LiddedRiver x = Checks.of("board 0 0 0;");
        Checks.book(x, "0 0;");
        Checks.same("it was not", x.openers(0) * 1000 + x.openers(1) * 100 + x.openers(2) * 10 + x.openers(3), 1001);
        Checks.book(x, "0 3;");
        Checks.same("it was", x.openers(0) * 1000 + x.openers(1) * 100 + x.openers(2) * 10 + x.openers(3), 1110);
        Checks.book(x, "");
        Checks.same("it may have been", x.openers(0), 2);
    }

    /** "1 the first (least bits; NONE), .. (bits both; 0 without any)". */
    private static void openersOfNone() {
        LiddedRiver x = Checks.of(SIXTEEN);
        for (String book : new String[] {"0 1;", "0 99;", "0 4;", "15 7;", "0 3;1 0;"}) {
            Checks.book(x, book);
            Checks.same(book + " sets", x.openers(0), 0);
            Checks.same(book + " first", x.openers(1), -1);
            Checks.same(book + " in all", x.openers(2), 0);
            Checks.same(book + " in none", x.openers(3), 0);
        }
    }

    /** Twelve lines: all are minded, from the first to the last. */
    private static void openersOfFullBook() {
        LiddedRiver x = Checks.of("smell 0;" + SIXTEEN);
        Checks.book(x, "15 1;14 0;13 1;12 0;11 1;10 0;9 1;8 0;7 1;6 0;5 1;4 0;");
        Checks.same("four are free", x.openers(0), 16);
        Checks.same("the first", x.openers(1), 0xAAA0);
        Checks.same("in all", x.openers(2), 0xAAA0);
        Checks.same("in none", x.openers(3), 0x5550);
        Checks.book(x, "15 1;14 0;13 1;12 0;11 1;10 0;9 1;8 0;7 1;6 0;5 1;4 2;");
        Checks.same("the last line is wrong", x.openers(0), 0);
        Checks.book(x, "15 2;14 0;");
        Checks.same("the first line is wrong", x.openers(0), 0);
    }

    /** Each BOOK that a set of eight BOARDS makes, against all sets. */
    private static void openersByAllTried() {
        for (int k = 0; k <= 4; k++) {
            for (int set = 0; set < 256; set += 5) {
                LiddedRiver x = Checks.of("smell " + k + ";" + "board 0 0 0;".repeat(8));
                int[] lines = {7, 3, 0};
                StringBuilder book = new StringBuilder();
                for (int b : lines) {
                    book.append(b).append(' ').append(smell(k, b, set)).append(';');
                }
                Checks.book(x, book.toString());
                int sets = 0;
                int first = -1;
                int all = 255;
                int some = 0;
                for (int other = 0; other < 256; other++) {
                    if (smell(k, 7, other) == smell(k, 7, set) && smell(k, 3, other) == smell(k, 3, set)
                            && smell(k, 0, other) == smell(k, 0, set)) {
                        first = sets == 0 ? other : first;
                        sets++;
                        all &= other;
                        some |= other;
                    }
                }
                String what = "K " + k + ", set " + set;
                Checks.same(what + ", sets", x.openers(0), sets);
                Checks.same(what + ", first", x.openers(1), first);
                Checks.same(what + ", in all", x.openers(2), all);
                Checks.same(what + ", in none", x.openers(3), 255 & ~some);
            }
        }
    }

    private static int smell(int k, int b, int set) {
        int all = 0;
        for (int x = 0; x <= b; x++) {
            all += (set >> x & 1) == 1 && b - x <= k ? k + 1 - (b - x) : 0;
        }
        return all;
    }

    /** "NONE: there is no such BOARD". */
    private static void nose() {
        LiddedRiver x = Checks.of("board 0 0 0;".repeat(12));
        Checks.book(x, "0 0;1 0;2 0;3 0;4 0;5 0;6 0;7 0;8 0;9 0;10 0;11 0;");
        Checks.same("all are in lines", x.nose(0), -1);
        Checks.same("none is left", x.nose(1), -1);
        Checks.book(x, "0 0;1 0;2 0;3 0;4 0;5 0;6 0;7 0;8 0;9 0;10 0;");
        Checks.same("the last alone is in none", x.nose(0), 11);
        Checks.same("one is left", x.nose(1), 1);
        Checks.book(x, "11 0;1 0;2 0;3 0;4 0;5 0;6 0;7 0;8 0;9 0;10 0;");
        Checks.same("the first alone is in none", x.nose(0), 0);
        LiddedRiver one = Checks.of("board 0 0 0;");
        Checks.same("one board", one.nose(0) * 10 + one.nose(1), 1);
        Checks.book(one, "0 99;");
        Checks.same("in a line that is wrong", one.nose(0), -1);
        LiddedRiver two = Checks.of("board 0 0 0;board 0 0 0;");
        Checks.book(two, "0 99;");
        Checks.same("no openers, the board in no line", two.nose(0), 1);
        Checks.same("no openers are left", two.nose(1), 0);
    }

    /** "fewest OPENERS are left at the worst, of these the first". */
    private static void noseOfAlikeTheFirst() {
        LiddedRiver alone = Checks.of("smell 0;" + SIXTEEN);
        Checks.same("each halves them, the first", alone.nose(0), 0);
        Checks.same("a half", alone.nose(1), 32768);
        Checks.book(alone, "0 0;");
        Checks.same("the first in no line", alone.nose(0), 1);
        LiddedRiver last = Checks.of("smell 2;board 0 0 0;board 0 0 0;board 0 0 0;board 0 0 0;");
        Checks.book(last, "2 0;");
        Checks.same("the last alone may smell otherwise", last.nose(0), 3);
        Checks.same("one is left", last.nose(1), 1);
        LiddedRiver far = Checks.of("smell 4;" + SIXTEEN);
        Checks.same("the first that smells five", far.nose(0), 4);
        Checks.same("three of 32 windows smell alike", far.nose(1), 65536 / 32 * 3);
    }

    /** "k (0 to 4) stand at BOARDS", "how many such ways (by how many stand where)". */
    private static void anglersNoneAndFour() {
        LiddedRiver x = Checks.of(SIXTEEN + "fish 15 40;");
        Checks.same("none: one way", x.anglers(0, 0), 1);
        Checks.same("none have", x.anglers(0, 1), 0);
        Checks.same("none stand", x.stand(15, 0), 0);
        Checks.same("one way for one", x.anglers(1, 0), 1);
        Checks.same("he has all", x.anglers(1, 1), 40);
        Checks.same("all four at the last", x.stand(15, 4), 4);
        Checks.same("ten each", x.anglers(4, 1), 40);
        Checks.same("three: 13 each, cut", x.anglers(3, 1), 39);
        LiddedRiver one = Checks.of("board 0 0 0;");
        Checks.same("four at one board without fish", one.anglers(4, 0) * 10 + one.anglers(4, 1), 10);
        Checks.same("they stand", one.stand(0, 4), 4);
    }

    /** "each has the fish there by how many stand there (cut)"; "none would have more": as much is not more. */
    private static void anglersCut() {
        LiddedRiver x = Checks.of("board 0 0 0;board 0 0 0;fish 0 3;fish 1 1;");
        Checks.same("two: 1 each, or 3 and 1", x.anglers(2, 0), 2);
        Checks.same("the first: one each", x.stand(0, 2) * 10 + x.stand(1, 2), 11);
        Checks.same("have", x.anglers(2, 1), 4);
        Checks.same("three: two and one, or three", x.anglers(3, 0), 2);
        Checks.same("the first", x.stand(0, 3) * 10 + x.stand(1, 3), 21);
        Checks.same("have, cut", x.anglers(3, 1), 3);
        LiddedRiver few = Checks.of("board 0 0 0;board 0 0 0;fish 0 3;");
        Checks.same("four at three fish have none, none would have more", few.stand(0, 4), 3);
        Checks.same("the first: three have one each", few.anglers(4, 1), 3);
        Checks.same("so two ways", few.anglers(4, 0), 2);
    }

    /** "the first (by BOARDS, from 0 on fewest first)". */
    private static void anglersOfAlikeTheFirst() {
        LiddedRiver x = Checks.of("board 0 0 0;board 0 0 0;board 0 0 0;fish 0 6;fish 1 6;fish 2 6;");
        Checks.same("one: three ways", x.anglers(1, 0), 3);
        Checks.same("at the last", x.stand(0, 1) * 100 + x.stand(1, 1) * 10 + x.stand(2, 1), 1);
        Checks.same("two", x.stand(0, 2) * 100 + x.stand(1, 2) * 10 + x.stand(2, 2), 11);
        Checks.same("three", x.stand(0, 3) * 100 + x.stand(1, 3) * 10 + x.stand(2, 3), 111);
        Checks.same("four", x.stand(0, 4) * 100 + x.stand(1, 4) * 10 + x.stand(2, 4), 112);
        Checks.same("four: three ways", x.anglers(4, 0), 3);
    }

    /** Three BOARDS, all ways to stand tried one by one. */
    private static void anglersByAllTried() {
        for (int fish = 0; fish < 125; fish++) {
            int[] there = {fish % 5 * 2, fish / 5 % 5 * 3, fish / 25 * 4};
            LiddedRiver x = Checks.of("board 0 0 0;board 0 0 0;board 0 0 0;fish 0 " + there[0] + ";fish 1 " + there[1]
                + ";fish 2 " + there[2] + ";");
            for (int k = 0; k <= 4; k++) {
                int rests = 0;
                int first = -1;
                for (int a = 0; a <= k; a++) {
                    for (int b = 0; b <= k - a; b++) {
                        if (isRest(there, a, b, k - a - b)) {
                            first = rests == 0 ? a * 100 + b * 10 + (k - a - b) : first;
                            rests++;
                        }
                    }
                }
                String what = k + " at " + there[0] + " " + there[1] + " " + there[2];
                Checks.same(what + ", rests", x.anglers(k, 0), rests);
                Checks.same(what + ", first", x.stand(0, k) * 100 + x.stand(1, k) * 10 + x.stand(2, k), first);
            }
        }
    }

    private static boolean isRest(int[] fish, int... stand) {
        for (int from = 0; from < 3; from++) {
            for (int to = 0; to < 3; to++) {
                if (from != to && stand[from] > 0 && fish[to] / (stand[to] + 1) > fish[from] / stand[from]) {
                    return false;
                }
            }
        }
        return true;
    }

    /** "each not open now, BEARS w or more". */
    private static void walksBearJustSo() {
        for (int w = 0; w <= 20; w++) {
            LiddedRiver x = Checks.of("board 0 20 0;board 0 0 0;board 0 10 0;board 0 20 0;");
            Checks.same("one of " + w + " on 10", x.walk(2, 2, w), w <= 10 ? 1 : -1);
            Checks.same("one of " + w + " on 0", x.walk(1, 1, w), w == 0 ? 1 : -1);
            Checks.same("one of " + w + " on 20", x.walk(3, 3, w), 1);
            Checks.same("one of " + w + " from 0 to 3", x.walk(0, 3, w), w <= 10 ? 3 : -1);
            Checks.same("reach", x.reach(0, w), w == 0 ? 15 : w <= 10 ? 13 : 1);
        }
        LiddedRiver open = HourEdgesTest.river("board 0 9 0;board 0 9 0;board 0 9 0;", "board % 2");
        Checks.same("over an open one", open.walk(0, 2, 9), 2);
        Checks.same("onto an open one", open.walk(0, 1, 9), -1);
        Checks.same("from an open one", open.walk(1, 0, 9), -1);
        Checks.same("on an open one", open.walk(1, 1, 9), -1);
    }

    /** "one may leap over one BOARD at a time". */
    private static void walksLeap() {
        LiddedRiver x = Checks.of("board 0 9 0;board 0 0 0;board 0 9 0;board 0 0 0;board 0 0 0;board 0 9 0;board 0 9 0;");
        Checks.same("over one", x.walk(0, 2, 9), 2);
        Checks.same("over two", x.walk(2, 5, 9), -1);
        Checks.same("back over two", x.walk(5, 2, 9), -1);
        Checks.same("a step", x.walk(5, 6, 9), 2);
        Checks.same("a step back", x.walk(6, 5, 9), 2);
        Checks.same("a leap back", x.walk(2, 0, 9), 2);
        Checks.same("reach up to two", x.reach(0, 9), 5);
        Checks.same("reach from the other side", x.reach(6, 9), 96);
    }

    /** "the fewest BOARDS trodden on, both ends counted". */
    private static void walksOverSixteen() {
        LiddedRiver x = Checks.of(SIXTEEN);
        for (int to = 0; to < 16; to++) {
            Checks.same("from 0 to " + to, x.walk(0, to, 0), 1 + (to + 1) / 2);
            Checks.same("from " + to + " to 0", x.walk(to, 0, 0), 1 + (to + 1) / 2);
            Checks.same("from 15 to " + to, x.walk(15, to, 0), 1 + (15 - to + 1) / 2);
        }
        LiddedRiver gaps = HourEdgesTest.river(SIXTEEN, "board % 2");
        Checks.same("leaps alone", gaps.walk(0, 14, 0), 8);
        Checks.same("leaps alone back", gaps.walk(14, 0, 0), 8);
        Checks.same("every other one", gaps.reach(14, 0), 0x5555);
    }

    /** "as bits (0: it does not bear him)". */
    private static void reach() {
        LiddedRiver x = Checks.of("board 0 20 0;" + "board 0 19 0;".repeat(15));
        Checks.same("all from the first", x.reach(0, 19), 65535);
        Checks.same("all from the last", x.reach(15, 19), 65535);
        Checks.same("himself alone", x.reach(0, 20), 1);
        Checks.same("it does not bear him", x.reach(15, 20), 0);
        Checks.work(x, "lift 0;");
        Checks.same("it is open", x.reach(0, 20), 0);
        Checks.same("all others", x.reach(15, 0), 65534);
        Checks.work(x, "shut 0;lift 7;lift 8;");
        Checks.same("up to the gap", x.reach(0, 0), 127);
        Checks.same("behind the gap", x.reach(15, 0), 65535 - 511);
    }

    /** "the longest row of BOARDS one behind the other that do (1), the first BOARD of that, of alike ones the first". */
    private static void narrow() {
        LiddedRiver x = Checks.of("board 0 0 0;board 5 0 0;board 5 0 0;board 4 0 0;board 5 0 0;board 9 0 0;");
        int[] held = {0, 1, 1, 1, 1, 9, 31, 31, 31, 31};
        int[] longest = {6, 5, 5, 5, 5, 2, 1, 1, 1, 1};
        int[] first = {0, 1, 1, 1, 1, 1, 5, 5, 5, 5};
        for (int mast = 0; mast <= 9; mast++) {
            Checks.same("mast " + mast + ", held", x.narrow(mast, 0), held[mast]);
            Checks.same("mast " + mast + ", longest", x.narrow(mast, 1), longest[mast]);
            Checks.same("mast " + mast + ", first", x.narrow(mast, 2), first[mast]);
        }
        LiddedRiver full = Checks.of(SIXTEEN);
        Checks.same("all held", full.narrow(1, 0), 65535);
        Checks.same("no row", full.narrow(1, 1), 0);
        Checks.same("no first", full.narrow(1, 2), -1);
        Checks.same("all in a row", full.narrow(0, 1), 16);
        Checks.same("from the first on", full.narrow(0, 2), 0);
        Checks.work(full, "lift 3;");
        Checks.same("while they are not open", full.narrow(1, 0), 65535);
    }

    /** "of these the first; NONE: none was". */
    private static void worst() {
        LiddedRiver x = HourEdgesTest.river(SIXTEEN + "flow 1;barge 1 0;", "0");
        Checks.same("none fined", x.worst(0), -1);
        Checks.same("none knocked at", x.worst(1), -1);
        Checks.work(x, "hour;");
        Checks.same("none fined, though one is knocked at", x.worst(0), -1);
        x.undo();
        Checks.work(x, "lift 15;hour;");
        Checks.same("the last, fined once", x.worst(0), 15);
        Checks.same("the first, knocked at once", x.worst(1), 0);
        Checks.work(x, "leave 15;lift 0;hour;");
        Checks.same("of alike ones the first", x.worst(0), 0);
        Checks.work(x, "hour;hour;");
        Checks.same("knocked at more", x.worst(1), 1);
        x.undo();
        Checks.same("as it was", x.worst(1), 0);
        LiddedRiver free = HourEdgesTest.river(SIXTEEN + "flow 1;barge 0 0;", "0");
        Checks.work(free, "hour;hour;");
        Checks.same("none knocked at, though a barge is there", free.worst(1), -1);
    }
}
