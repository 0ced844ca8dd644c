/** Promises 22 to 30: FLOODS, SMELLS, OPENERS, the NOSE, ANGLERS and WALKS. */
public final class AskedTest {
    private static final String FIVE = "board 3 5 2;board 1 9 4;board 0 2 3;board 5 7 1;board 2 4 6;"
        + "street 0 2 5;street 2 4 7;fish 0 9;fish 2 10;smell 1;";

    public static void main(String[] args) {
        floods();
        floodsOfAllBoards();
        holds();
        smells();
        openers();
        openersOfAllBoards();
        nose();
        anglers();
        anglersAlike();
        walks();
        reach();
        Checks.end();
    }

    private static void floods() {
        LiddedRiver x = Checks.of(FIVE);
        Checks.same("none told", x.flood(0), 0);
        Checks.same("2 and 4 before 4 and 3", x.flood(1), 3);
        Checks.same("3 and 6 before 6 and 1", x.flood(2), 20);
        Checks.same("both", x.flood(3), 21);
        Checks.work(x, "lift 0;shut 1;");
        Checks.same("whatever is lifted", x.flood(1), 3);
        LiddedRiver y = Checks.of("board 0 0 9;board 0 0 3;street 0 1 12;street 0 0 10;street 1 1 1;");
        Checks.same("just enough", y.flood(1), 3);
        Checks.same("not by all", y.flood(2), -1);
        Checks.same("not both", y.flood(3), -1);
        Checks.same("the others", y.flood(5), 3);
        Checks.argument("flood(8)", y, () -> y.flood(8));
        Checks.argument("flood(-1)", y, () -> y.flood(-1));
        LiddedRiver z = Checks.of("board 0 0 1;board 0 0 2;board 0 0 2;street 0 2 2;");
        Checks.same("fewest ahead of least bits", z.flood(1), 2);
    }

    private static void floodsOfAllBoards() {
        LiddedRiver x = Checks.of("board 0 0 2;".repeat(16) + "street 0 15 32;street 15 15 1;street 0 15 31;street 2 9 7;");
        Checks.same("all boards", x.flood(1), 65535);
        Checks.same("the last", x.flood(2), 32768);
        Checks.same("both", x.flood(4), 65535);
        Checks.same("four of eight", x.flood(8), 60);
        Checks.same("and the last", x.flood(10), 32768 + 60);
        Checks.argument("flood(16)", x, () -> x.flood(16));
    }

    private static void holds() {
        LiddedRiver x = Checks.of(FIVE);
        Checks.same("none", x.holds(0), 0);
        Checks.same("2 and 4", x.holds(3), 1);
        Checks.same("3 and 6", x.holds(20), 2);
        Checks.same("6 and 1", x.holds(24), 2);
        Checks.same("all", x.holds(31), 3);
        Checks.argument("holds(32)", x, () -> x.holds(32));
        Checks.argument("holds(-1)", x, () -> x.holds(-1));
        LiddedRiver y = new LiddedRiver();
        Checks.argument("holds(1) without boards", y, () -> y.holds(1));
    }

    private static void smells() {
        LiddedRiver x = Checks.of("smell 2;" + "board 0 0 0;".repeat(6));
        Checks.same("itself", x.smells(3, 8), 3);
        Checks.same("one ahead", x.smells(3, 4), 2);
        Checks.same("two ahead", x.smells(3, 2), 1);
        Checks.same("three ahead", x.smells(3, 1), 0);
        Checks.same("one behind", x.smells(3, 16), 0);
        Checks.same("all", x.smells(3, 63), 6);
        Checks.same("the first board", x.smells(0, 63), 3);
        Checks.same("the second board", x.smells(1, 63), 5);
        Checks.absent("smells(6, 99)", x, () -> x.smells(6, 99));
        Checks.absent("smells(-1, 0)", x, () -> x.smells(-1, 0));
        Checks.argument("smells(5, 64)", x, () -> x.smells(5, 64));
        Checks.argument("smells(5, -1)", x, () -> x.smells(5, -1));
        LiddedRiver y = Checks.of("smell 4;" + "board 0 0 0;".repeat(16));
        Checks.same("the most", y.smells(15, 65535), 15);
    }

    private static void openers() {
        LiddedRiver x = Checks.of(FIVE);
        Checks.same("without a book", x.openers(0), 32);
        Checks.same("the first", x.openers(1), 0);
        Checks.same("in all", x.openers(2), 0);
        Checks.same("in none", x.openers(3), 0);
        Checks.book(x, "0 2;2 1;");
        Checks.same("sets", x.openers(0), 4);
        Checks.same("first", x.openers(1), 3);
        Checks.same("in all", x.openers(2), 3);
        Checks.same("in none", x.openers(3), 4);
        Checks.book(x, "4 2;3 0;");
        Checks.same("sets", x.openers(0), 4);
        Checks.same("first", x.openers(1), 16);
        Checks.same("in all", x.openers(2), 16);
        Checks.same("in none", x.openers(3), 12);
        Checks.book(x, "0 1;");
        Checks.same("no sets", x.openers(0), 0);
        Checks.same("no first", x.openers(1), -1);
        Checks.same("in all of none", x.openers(2), 0);
        Checks.same("in none of none", x.openers(3), 0);
        Checks.argument("openers(4)", x, () -> x.openers(4));
        Checks.argument("openers(-1)", x, () -> x.openers(-1));
    }

    private static void openersOfAllBoards() {
        LiddedRiver x = Checks.of("smell 4;" + "board 0 0 0;".repeat(16));
        Checks.same("all sets", x.openers(0), 65536);
        Checks.book(x, "15 15;4 15;");
        Checks.same("six are free", x.openers(0), 64);
        Checks.same("first", x.openers(1), 63488 + 31);
        Checks.same("in all", x.openers(2), 63488 + 31);
        Checks.book(x, "15 99;");
        Checks.same("no one smells so much", x.openers(0), 0);
    }

    private static void nose() {
        LiddedRiver x = Checks.of(FIVE);
        Checks.same("of alike ones the first, each smells 0 to 3", x.nose(0), 1);
        Checks.same("a fourth is left", x.nose(1), 8);
        Checks.book(x, "0 2;2 1;");
        Checks.same("board 4 tells 3 and 4 apart", x.nose(0), 4);
        Checks.same("one is left", x.nose(1), 1);
        Checks.book(x, "0 1;");
        Checks.same("without openers the first in no line", x.nose(0), 1);
        Checks.same("none is left", x.nose(1), 0);
        Checks.book(x, "0 0;1 0;2 0;3 0;4 0;");
        Checks.same("no such board", x.nose(0), -1);
        Checks.same("none", x.nose(1), -1);
        Checks.argument("nose(2)", x, () -> x.nose(2));
        Checks.argument("nose(-1)", x, () -> x.nose(-1));
    }

    private static void anglers() {
        LiddedRiver x = Checks.of(FIVE);
        Checks.same("none stands", x.anglers(0, 0), 1);
        Checks.same("none has", x.anglers(0, 1), 0);
        Checks.same("one", x.anglers(1, 1), 10);
        Checks.same("he stands at 2", x.stand(2, 1), 1);
        Checks.same("not at 0", x.stand(0, 1), 0);
        Checks.same("two", x.anglers(2, 1), 19);
        Checks.same("three", x.anglers(3, 1), 19);
        Checks.same("two at 2", x.stand(2, 3), 2);
        Checks.same("four", x.anglers(4, 1), 18);
        Checks.same("two at 0", x.stand(0, 4), 2);
        Checks.same("one way", x.anglers(4, 0), 1);
        Checks.absent("stand(5, 5)", x, () -> x.stand(5, 5));
        Checks.absent("stand(-1, 0)", x, () -> x.stand(-1, 0));
        Checks.argument("stand(0, 5)", x, () -> x.stand(0, 5));
        Checks.argument("stand(0, -1)", x, () -> x.stand(0, -1));
        Checks.argument("anglers(5, 0)", x, () -> x.anglers(5, 0));
        Checks.argument("anglers(-1, 0)", x, () -> x.anglers(-1, 0));
        Checks.argument("anglers(0, 2)", x, () -> x.anglers(0, 2));
        Checks.argument("anglers(0, -1)", x, () -> x.anglers(0, -1));
    }

    private static void anglersAlike() {
        LiddedRiver x = Checks.of("board 0 0 0;board 0 0 0;board 0 0 0;fish 0 5;fish 1 5;fish 2 5;");
        Checks.same("two of three boards", x.anglers(2, 0), 3);
        Checks.same("the first leaves board 0", x.stand(0, 2), 0);
        Checks.same("the first", x.stand(1, 2) * 10 + x.stand(2, 2), 11);
        Checks.same("they have", x.anglers(2, 1), 10);
        Checks.same("four: two somewhere", x.anglers(4, 0), 3);
        Checks.same("the last board", x.stand(2, 4), 2);
        Checks.same("cut", x.anglers(4, 1), 14);
        LiddedRiver y = Checks.of("board 0 0 0;".repeat(16));
        Checks.same("without fish all ways rest", y.anglers(4, 0), 3876);
        Checks.same("the first", y.stand(15, 4), 4);
        LiddedRiver z = new LiddedRiver();
        Checks.same("nowhere to stand", z.anglers(1, 0), 0);
        Checks.same("none has", z.anglers(1, 1), -1);
    }

    private static void walks() {
        LiddedRiver x = Checks.of("board 0 5 0;board 0 9 0;board 0 2 0;board 0 7 0;board 0 4 0;board 0 3 0;board 0 9 0;");
        Checks.same("to itself", x.walk(0, 0, 5), 1);
        Checks.same("not by one of 6", x.walk(0, 0, 6), -1);
        Checks.same("leaps", x.walk(0, 6, 0), 4);
        Checks.same("back", x.walk(6, 0, 0), 4);
        Checks.same("a step and a leap", x.walk(0, 4, 4), 4);
        Checks.same("a far leap is none", x.walk(3, 6, 5), -1);
        Checks.same("two leaps", x.walk(1, 4, 4), 3);
        Checks.same("20", x.walk(1, 1, 20), -1);
        Checks.work(x, "lift 2;");
        Checks.same("not on an open board", x.walk(0, 6, 0), 5);
        Checks.same("not to one", x.walk(0, 2, 0), -1);
        Checks.same("not from one", x.walk(2, 0, 0), -1);
        Checks.work(x, "lift 3;");
        Checks.same("two open ones", x.walk(0, 6, 0), -1);
        Checks.absent("walk(0, 7, 21)", x, () -> x.walk(0, 7, 21));
        Checks.absent("walk(-1, 0, 0)", x, () -> x.walk(-1, 0, 0));
        Checks.argument("walk(0, 6, 21)", x, () -> x.walk(0, 6, 21));
        Checks.argument("walk(0, 6, -1)", x, () -> x.walk(0, 6, -1));
    }

    private static void reach() {
        LiddedRiver x = Checks.of("board 0 5 0;board 0 9 0;board 0 2 0;board 0 7 0;board 0 4 0;board 0 3 0;board 0 9 0;");
        Checks.same("all", x.reach(3, 0), 127);
        Checks.same("of 4, leaping", x.reach(0, 4), 91);
        Checks.same("of 5", x.reach(3, 5), 11);
        Checks.same("of 5 from the other side", x.reach(6, 5), 64);
        Checks.same("it does not bear him", x.reach(2, 3), 0);
        Checks.work(x, "lift 3;");
        Checks.same("nor an open one", x.reach(3, 0), 0);
        Checks.same("but the others", x.reach(0, 0), 119);
        LiddedRiver y = Checks.of("board 0 20 0;".repeat(16));
        Checks.same("from the end", y.reach(15, 20), 65535);
        Checks.absent("reach(7, 21)", x, () -> x.reach(7, 21));
        Checks.absent("reach(-1, 0)", x, () -> x.reach(-1, 0));
        Checks.argument("reach(0, 21)", x, () -> x.reach(0, 21));
        Checks.argument("reach(0, -1)", x, () -> x.reach(0, -1));
    }
}
