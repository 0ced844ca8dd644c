import java.util.ArrayList;
import java.util.Arrays;
import java.util.List;

/**
 * Every place of every call of the face (promises 9 to 36, 39, 40): the least and the greatest number that it takes, the
 * next ones beyond, and the farthest; on a river without anything, on small ones, and on one with all that fits.
 */
public final class RangesTest {
    /** A call and its places: a range, a "board", "barge" or "street" that is there, bits of them, or "any" number. */
    private static final String[] CALLS = {
        "told 0..9", "board board 0..7", "barge barge 0..4", "street street 0..3", "lawful board 0..23 0..99",
        "opens board", "often board 0..240", "busiest", "trip 0..9 0..48 0..2", "soonest 0..9 0..48 0..1",
        "hold 0..9 0..48", "tallest 0..48", "letter board 0..2", "flood streets", "holds boards", "smells board boards",
        "openers 0..3", "nose 0..1", "anglers 0..4 0..1", "stand board 0..4", "walk board board 0..20",
        "reach board 0..20", "peak 0..1", "narrow 0..9 0..2", "worst 0..1", "ahead 0..240 0..2",
        "winters any 0..16 1..240 0..3", "span any 1..20 0..16 1..240 0..2", "status any", "count any"};
    private static final String FULL = "board 9 20 9;".repeat(16) + "barge 9 95;".repeat(4) + "street 0 15 40;".repeat(8)
        + "flow 4;".repeat(32);
    private static final String[] RIVERS = {"", "board 3 5 2;barge 4 1;street 0 0 2;",
        "board 3 5 2;board 1 9 4;board 0 2 3;board 5 7 1;board 2 4 6;barge 4 1;barge 0 0;street 0 2 5;street 2 4 7;", FULL};
    /** How many calls an object may be used for, less those that make it and look at it. */
    private static final int CALLS_OF_ONE = 400;

    private final String river;
    private LiddedRiver x;
    private int boards;
    private int barges;
    private int streets;
    private int calls;

    private RangesTest(String river) {
        this.river = river;
        makeAnew();
    }

    public static void main(String[] args) {
        for (String river : RIVERS) {
            RangesTest test = new RangesTest(river);
            for (String call : CALLS) {
                String[] words = call.split(" ");
                test.tryAll(words[0], Arrays.copyOfRange(words, 1, words.length), new ArrayList<>());
            }
        }
        Checks.end();
    }

    private void makeAnew() {
        x = Checks.of(river);
        boards = x.told(0);
        barges = x.told(1);
        streets = x.told(2);
        calls = 0;
    }

    /** All ways to fill the places with their edges. */
    private void tryAll(String name, String[] places, List<Integer> args) {
        if (args.size() == places.length) {
            tryOne(name, places, args.toArray());
            return;
        }
        for (int edge : edges(places[args.size()])) {
            args.add(edge);
            tryAll(name, places, args);
            args.remove(args.size() - 1);
        }
    }

    private void tryOne(String name, String[] places, Object[] args) {
        if (calls > CALLS_OF_ONE) {
            makeAnew();
        }
        calls += 5;
        int absents = x.status(0);
        int arguments = x.status(1);
        String due = due(places, args);
        String got = Checks.answer(x, name, args);
        String call = name + Arrays.toString(args) + " of " + boards + " boards";
        Checks.same(call, got.startsWith("throws") ? got : "no throw", due);
        Checks.same("status(0) behind " + call, x.status(0) - absents, due.equals("throws.NoSuchElementException") ? 1 : 0);
        Checks.same("status(1) behind " + call, x.status(1) - arguments, due.equals("throws.IllegalArgumentException") ? 1 : 0);
    }

    /** One that is not there comes ahead of all else that is wrong. */
    private String due(String[] places, Object[] args) {
        String due = "no throw";
        for (int i = 0; i < places.length; i++) {
            long value = (Integer) args[i];
            boolean fits = value >= least(places[i]) && value <= most(places[i]);
            if (!fits && List.of("board", "barge", "street").contains(places[i])) {
                return "throws.NoSuchElementException";
            }
            due = fits ? due : "throws.IllegalArgumentException";
        }
        return due;
    }

    private List<Integer> edges(String place) {
        List<Integer> edges = new ArrayList<>();
        long least = least(place);
        long most = most(place);
        for (long edge : new long[] {least, most, least - 1, most + 1, Integer.MIN_VALUE, Integer.MAX_VALUE}) {
            boolean isInt = edge == (int) edge;
            if (isInt && !edges.contains((int) edge)) {
                edges.add((int) edge);
            }
        }
        return edges;
    }

    private long least(String place) {
        if (place.equals("any")) {
            return Integer.MIN_VALUE;
        }
        return place.contains("..") ? Long.parseLong(place.split("\\.\\.")[0]) : 0;
    }

    private long most(String place) {
        switch (place) {
            case "any": return Integer.MAX_VALUE;
            case "board": return boards - 1;
            case "barge": return barges - 1;
            case "street": return streets - 1;
            case "boards": return (1L << boards) - 1;
            case "streets": return (1L << streets) - 1;
            default: return Long.parseLong(place.split("\\.\\.")[1]);
        }
    }
}
