import java.util.ArrayDeque;
import java.util.ArrayList;
import java.util.Arrays;
import java.util.HashSet;
import java.util.List;
import java.util.NoSuchElementException;
import java.util.Set;
import java.util.TreeMap;

/**
 * The document once more, as plainly as can be: every question is answered by trying all there is, on copies of the
 * whole state. It is slow, shares nothing with LiddedRiver, and is there to be compared with it.
 */
final class PlainRiver {
    static final int NONE = -1;
    static final List<String> FACTS = List.of("hour", "day", "board", "clear", "bears", "drains", "fish", "fined");

    static final class Fault extends RuntimeException {
        private static final long serialVersionUID = 1;
        final int kind;
        final int place;

        Fault(int kind, int place) {
            this.kind = kind;
            this.place = place;
        }
    }

    /** The text, token by token; what is wrong is thrown where it is met. */
    static final class Scan {
        final String text;
        int at;
        int begin;

        Scan(String text) {
            this.text = text;
        }

        char see() {
            while (at < text.length() && text.charAt(at) == ' ') {
                at++;
            }
            return at < text.length() ? text.charAt(at) : 0xFFFF;
        }

        boolean over() {
            return see() == 0xFFFF;
        }

        Fault wrong() {
            see();
            return new Fault(1, at);
        }

        void sign(char c) {
            if (see() != c) {
                throw wrong();
            }
            at++;
        }

        int number(int least, int most) {
            if (see() < '0' || see() > '9') {
                throw wrong();
            }
            begin = at;
            java.math.BigInteger value = java.math.BigInteger.ZERO;
            while (at < text.length() && text.charAt(at) >= '0' && text.charAt(at) <= '9') {
                value = value.multiply(java.math.BigInteger.TEN).add(java.math.BigInteger.valueOf(text.charAt(at++) - '0'));
            }
            if (value.compareTo(java.math.BigInteger.valueOf(least)) < 0
                    || value.compareTo(java.math.BigInteger.valueOf(most)) > 0) {
                throw new Fault(2, begin);
            }
            return value.intValue();
        }

        String word(String... among) {
            see();
            begin = at;
            while (at < text.length() && text.charAt(at) >= 'a' && text.charAt(at) <= 'z') {
                at++;
            }
            String word = text.substring(begin, at);
            if (!Arrays.asList(among).contains(word)) {
                throw new Fault(1, begin);
            }
            return word;
        }
    }

    interface Term {
        int value(int[] facts);
    }

    static final class Step {
        String word;
        int number;
        List<Step> inner = new ArrayList<>();
    }

    static final class Barge {
        int mast;
        int comes;
        int passed;
        int where;
        int through = NONE;
        TreeMap<Integer, Integer> knocks = new TreeMap<>();

        Barge copy() {
            Barge b = new Barge();
            b.mast = mast;
            b.comes = comes;
            b.passed = passed;
            b.where = where;
            b.through = through;
            b.knocks = new TreeMap<>(knocks);
            return b;
        }
    }

    static final class World {
        int hour;
        int[] mode;
        int[] fined;
        int[] knocks;
        List<Barge> barges = new ArrayList<>();

        World copy() {
            World w = new World();
            w.hour = hour;
            w.mode = mode.clone();
            w.fined = fined.clone();
            w.knocks = knocks.clone();
            for (Barge b : barges) {
                w.barges.add(b.copy());
            }
            return w;
        }

        int through() {
            int n = 0;
            for (Barge b : barges) {
                n += b.where == 2 ? 1 : 0;
            }
            return n;
        }
    }

    static final class Image {
        World world;
        ArrayDeque<World> works;
    }

    private final StringBuilder tape = new StringBuilder();
    private List<int[]> boards = new ArrayList<>();
    private List<int[]> streets = new ArrayList<>();
    private int flow = 2;
    private int smell = 2;
    private TreeMap<Integer, Integer> fish = new TreeMap<>();
    private Term law = readLaw("1 - most [ hour - 12 , 12 - hour ]");
    private TreeMap<Integer, Integer> book = new TreeMap<>();
    private World world = fresh(new ArrayList<>());
    private ArrayDeque<World> works = new ArrayDeque<>();
    private ArrayDeque<Image> images = new ArrayDeque<>();
    private int fault = NONE;
    private int refused;
    private int absent;
    private int wrong;
    private int begun;
    private int done;

    private World fresh(List<Barge> barges) {
        World w = new World();
        w.mode = new int[boards.size()];
        w.fined = new int[boards.size()];
        w.knocks = new int[boards.size()];
        w.barges = barges;
        return w;
    }

    // ---- refusals

    private void arg(boolean fine) {
        if (!fine) {
            wrong++;
            throw new IllegalArgumentException();
        }
    }

    private void there(int i, int n) {
        if (i < 0 || i >= n) {
            absent++;
            throw new NoSuchElementException();
        }
    }

    private static boolean in(int x, int a, int b) {
        return x >= a && x <= b;
    }

    // ---- texts

    int feed(int a, int b, int c, int d, int e) {
        if (tape.length() + 20 > 600) {
            return NONE;
        }
        for (int x : new int[] {a, b, c, d, e}) {
            tape.append((char) (x >>> 24)).append((char) (x >>> 16 & 255)).append((char) (x >>> 8 & 255)).append((char) (x & 255));
        }
        return tape.length();
    }

    private String take(int n, int most) {
        arg(n >= 0 && n <= tape.length() && n <= most);
        String text = tape.substring(0, n);
        tape.setLength(0);
        fault = NONE;
        return text;
    }

    private int faulted(Fault f) {
        fault = f.place;
        return f.kind - 10;
    }

    int river(int n) {
        Scan s = new Scan(take(n, 600));
        List<int[]> newBoards = new ArrayList<>();
        List<int[]> newStreets = new ArrayList<>();
        List<Barge> newBarges = new ArrayList<>();
        TreeMap<Integer, Integer> newFish = new TreeMap<>();
        int newFlow = 2;
        int newSmell = 2;
        try {
            for (int clause = 1; !s.over(); clause++) {
                String word = s.word("board", "barge", "flow", "street", "fish", "smell");
                if (clause > 60 || word.equals("board") && newBoards.size() == 16
                        || word.equals("barge") && newBarges.size() == 4
                        || word.equals("street") && newStreets.size() == 8) {
                    throw new Fault(3, s.begin);
                }
                if (word.equals("board")) {
                    newBoards.add(new int[] {s.number(0, 9), s.number(0, 20), s.number(0, 9)});
                } else if (word.equals("barge")) {
                    Barge b = new Barge();
                    b.mast = s.number(0, 9);
                    b.comes = s.number(0, 95);
                    newBarges.add(b);
                } else if (word.equals("flow")) {
                    newFlow = s.number(1, 4);
                } else if (word.equals("street")) {
                    int f = s.number(0, newBoards.size() - 1);
                    newStreets.add(new int[] {f, s.number(f, newBoards.size() - 1), s.number(1, 40)});
                } else if (word.equals("fish")) {
                    int b = s.number(0, newBoards.size() - 1);
                    newFish.put(b, s.number(0, 40));
                } else {
                    newSmell = s.number(0, 4);
                }
                s.sign(';');
            }
        } catch (Fault f) {
            return faulted(f);
        }
        boards = newBoards;
        streets = newStreets;
        fish = newFish;
        flow = newFlow;
        smell = newSmell;
        law = readLaw("1 - most [ hour - 12 , 12 - hour ]");
        book = new TreeMap<>();
        world = fresh(newBarges);
        works = new ArrayDeque<>();
        images = new ArrayDeque<>();
        refused = 0;
        return boards.size();
    }

    private static Term readLaw(String text) {
        Scan s = new Scan(text);
        Term t = sum(s, 0);
        if (!s.over()) {
            throw s.wrong();
        }
        return t;
    }

    private static Term sum(Scan s, int deep) {
        Term left = product(s, deep);
        while (s.see() == '+' || s.see() == '-') {
            boolean plus = s.see() == '+';
            s.at++;
            Term a = left;
            Term b = product(s, deep);
            left = plus ? f -> a.value(f) + b.value(f) : f -> a.value(f) - b.value(f);
        }
        return left;
    }

    private static Term product(Scan s, int deep) {
        Term left = unit(s, deep);
        while (s.see() == '*' || s.see() == '/' || s.see() == '%') {
            char c = s.see();
            s.at++;
            Term a = left;
            Term b = unit(s, deep);
            if (c == '*') {
                left = f -> a.value(f) * b.value(f);
            } else if (c == '/') {
                left = f -> b.value(f) == 0 ? 0 : (int) ((long) a.value(f) / b.value(f));
            } else {
                left = f -> b.value(f) == 0 ? 0 : (int) ((long) a.value(f) % b.value(f));
            }
        }
        return left;
    }

    private static Term unit(Scan s, int deep) {
        char c = s.see();
        if (c >= '0' && c <= '9') {
            int n = s.number(0, 999);
            return f -> n;
        }
        if (c == '(') {
            if (deep == 6) {
                throw new Fault(3, s.at);
            }
            s.at++;
            Term t = sum(s, deep + 1);
            s.sign(')');
            return t;
        }
        String w = s.word("hour", "day", "board", "clear", "bears", "drains", "fish", "fined", "least", "most");
        if (!w.equals("least") && !w.equals("most")) {
            int fact = FACTS.indexOf(w);
            return f -> f[fact];
        }
        if (deep == 6) {
            throw new Fault(3, s.begin);
        }
        s.sign('[');
        Term a = sum(s, deep + 1);
        s.sign(',');
        Term b = sum(s, deep + 1);
        s.sign(']');
        return w.equals("least") ? f -> Math.min(a.value(f), b.value(f)) : f -> Math.max(a.value(f), b.value(f));
    }

    int law(int n) {
        String text = take(n, 150);
        try {
            law = readLaw(text);
            return 1;
        } catch (Fault f) {
            return faulted(f);
        }
    }

    private List<Step> steps(Scan s, int deep) {
        List<Step> list = new ArrayList<>();
        while (deep == 0 ? !s.over() : s.see() != ']') {
            Step step = new Step();
            step.word = s.word("lift", "shut", "leave", "hour", "again");
            if (step.word.equals("again")) {
                if (deep == 6) {
                    throw new Fault(3, s.begin);
                }
                step.number = s.number(0, 60);
                s.sign('[');
                step.inner = steps(s, deep + 1);
                s.sign(']');
            } else if (!step.word.equals("hour")) {
                step.number = s.number(0, boards.size() - 1);
            }
            s.sign(';');
            list.add(step);
        }
        return list;
    }

    int work(int n) {
        String text = take(n, 150);
        if (works.size() == 16) {
            return -20;
        }
        List<Step> list;
        try {
            list = steps(new Scan(text), 0);
        } catch (Fault f) {
            return faulted(f);
        }
        works.push(world.copy());
        begun = 0;
        done = 0;
        refused = 0;
        doAll(list);
        return done;
    }

    private void doAll(List<Step> list) {
        for (Step s : list) {
            if (begun == 240) {
                return;
            }
            begun++;
            if (s.word.equals("again")) {
                for (int i = 0; i < s.number; i++) {
                    doAll(s.inner);
                }
            } else if (s.word.equals("hour")) {
                if (world.hour >= 960) {
                    refused++;
                } else {
                    hour(world, new HashSet<>());
                    done++;
                }
            } else {
                int mode = s.word.equals("lift") ? 1 : s.word.equals("shut") ? 2 : 0;
                if (world.mode[s.number] == mode) {
                    refused++;
                } else {
                    world.mode[s.number] = mode;
                    done++;
                }
            }
        }
    }

    int book(int n) {
        Scan s = new Scan(take(n, 100));
        TreeMap<Integer, Integer> read = new TreeMap<>();
        try {
            while (!s.over()) {
                int b = s.number(0, boards.size() - 1);
                if (read.containsKey(b)) {
                    throw new Fault(2, s.begin);
                }
                if (read.size() == 12) {
                    throw new Fault(3, s.begin);
                }
                read.put(b, s.number(0, 99));
                s.sign(';');
            }
        } catch (Fault f) {
            return faulted(f);
        }
        book = read;
        return book.size();
    }

    int fault() {
        return fault;
    }

    int undo() {
        if (works.isEmpty()) {
            return -1;
        }
        world = works.pop();
        refused = 0;
        return works.size();
    }

    // ---- the law and the hour

    private boolean byLaw(int board, int hour, int day, int fined) {
        int[] told = boards.get(board);
        int[] facts = {hour, day, board, told[0], told[1], told[2], fish.getOrDefault(board, 0), fined};
        return law.value(facts) > 0;
    }

    private boolean byLaw(World w, int board) {
        return byLaw(board, w.hour % 24, w.hour / 24, w.fined[board]);
    }

    private boolean open(World w, int board) {
        return w.mode[board] == 1 || w.mode[board] == 0 && byLaw(w, board);
    }

    private int howManyOpen(World w) {
        int n = 0;
        for (int b = 0; b < boards.size(); b++) {
            n += open(w, b) ? 1 : 0;
        }
        return n;
    }

    private void hour(World w, Set<Integer> frozen) {
        boolean[] open = new boolean[boards.size()];
        for (int b = 0; b < boards.size(); b++) {
            open[b] = open(w, b) && !frozen.contains(b);
        }
        for (int b = 0; b < boards.size(); b++) {
            if (open[b] != byLaw(w, b) && !frozen.contains(b)) {
                w.fined[b]++;
            }
        }
        for (Barge g : w.barges) {
            if (g.comes == w.hour) {
                g.where = 1;
            }
            if (g.where != 1) {
                continue;
            }
            for (int went = 0; went < flow && g.passed < boards.size(); went++) {
                if (!open[g.passed] && g.mast > boards.get(g.passed)[0]) {
                    w.knocks[g.passed]++;
                    g.knocks.merge(g.passed, 1, Integer::sum);
                    break;
                }
                g.passed++;
            }
            if (g.passed == boards.size()) {
                g.where = 2;
                g.through = w.hour;
            }
        }
        w.hour++;
    }

    private static int sum(int[] row) {
        return Arrays.stream(row).sum();
    }

    // ---- told

    int told(int what) {
        arg(in(what, 0, 9));
        return new int[] {boards.size(), world.barges.size(), streets.size(), world.hour, howManyOpen(world),
            sum(world.fined), sum(world.knocks), world.through(), book.size(), refused}[what];
    }

    int board(int board, int what) {
        there(board, boards.size());
        arg(in(what, 0, 7));
        int[] b = boards.get(board);
        return new int[] {b[0], b[1], b[2], fish.getOrDefault(board, 0), world.mode[board], open(world, board) ? 1 : 0,
            world.fined[board], world.knocks[board]}[what];
    }

    int barge(int barge, int what) {
        there(barge, world.barges.size());
        arg(in(what, 0, 4));
        Barge g = world.barges.get(barge);
        return new int[] {g.mast, g.comes, g.passed, g.where, g.through}[what];
    }

    int street(int street, int what) {
        there(street, streets.size());
        arg(in(what, 0, 3));
        if (what < 3) {
            return streets.get(street)[what];
        }
        int bits = 0;
        for (int b = 0; b < boards.size(); b++) {
            bits += open(world, b) ? 1 << b : 0;
        }
        return holding(bits) >> street & 1;
    }

    boolean lawful(int board, int hour, int day) {
        there(board, boards.size());
        arg(in(hour, 0, 23) && in(day, 0, 99));
        return byLaw(board, hour, day, world.fined[board]);
    }

    int opens(int board) {
        there(board, boards.size());
        World w = world.copy();
        for (int h = 0; h <= 240; h++) {
            if (open(w, board)) {
                return h;
            }
            hour(w, new HashSet<>());
        }
        return NONE;
    }

    int often(int board, int n) {
        there(board, boards.size());
        arg(in(n, 0, 240));
        World w = world.copy();
        int times = 0;
        for (int h = 0; h < n; h++) {
            times += open(w, board) ? 1 : 0;
            hour(w, new HashSet<>());
        }
        return times;
    }

    int busiest() {
        int best = 0;
        int most = -1;
        for (int h = 0; h < 24; h++) {
            int n = 0;
            for (int b = 0; b < boards.size(); b++) {
                n += byLaw(b, h, world.hour / 24, world.fined[b]) ? 1 : 0;
            }
            if (n > most) {
                most = n;
                best = h;
            }
        }
        return best;
    }

    // ---- trips

    private Barge sail(int m, int t) {
        World w = world.copy();
        Barge g = new Barge();
        g.mast = m;
        g.comes = world.hour + t;
        w.barges.add(g);
        for (int h = 0; h < 240 && g.where != 2; h++) {
            hour(w, new HashSet<>());
        }
        return g;
    }

    int trip(int m, int t, int what) {
        arg(in(m, 0, 9) && in(t, 0, 48) && in(what, 0, 2));
        Barge g = sail(m, t);
        if (what == 0) {
            return g.where == 2 ? g.through - world.hour : NONE;
        }
        int all = 0;
        int most = 0;
        int worst = NONE;
        for (int b : g.knocks.keySet()) {
            all += g.knocks.get(b);
            if (g.knocks.get(b) > most) {
                most = g.knocks.get(b);
                worst = b;
            }
        }
        return what == 1 ? all : worst;
    }

    int soonest(int m, int n, int what) {
        arg(in(m, 0, 9) && in(n, 0, 48) && in(what, 0, 1));
        int through = Integer.MAX_VALUE;
        int comes = NONE;
        for (int t = n; t >= 0; t--) {
            Barge g = sail(m, t);
            if (g.where == 2 && g.through - world.hour < through) {
                through = g.through - world.hour;
                comes = t;
            }
        }
        return comes == NONE ? NONE : what == 0 ? comes : through;
    }

    int hold(int m, int t) {
        arg(in(m, 0, 9) && in(t, 0, 48));
        World w = world.copy();
        for (int h = 0; h < t; h++) {
            hour(w, new HashSet<>());
        }
        int bits = 0;
        for (int b = 0; b < boards.size(); b++) {
            if (b > 0 && b % flow == 0) {
                hour(w, new HashSet<>());
            }
            bits |= !open(w, b) && m > boards.get(b)[0] ? 1 << b : 0;
        }
        return bits;
    }

    int tallest(int t) {
        arg(in(t, 0, 48));
        int best = NONE;
        for (int m = 0; m <= 9; m++) {
            best = sail(m, t).where == 2 ? m : best;
        }
        return best;
    }

    int letter(int board, int what) {
        there(board, boards.size());
        arg(in(what, 0, 2));
        World w = world.copy();
        List<int[]> seen = new ArrayList<>();
        for (int b = board; b < boards.size(); b += flow) {
            if (open(w, b)) {
                seen.add(new int[] {w.hour - world.hour, b});
            }
            hour(w, new HashSet<>());
        }
        return what == 2 ? seen.size() : seen.isEmpty() ? NONE : seen.get(0)[what];
    }

    // ---- floods

    private int holding(int open) {
        int bits = 0;
        for (int s = 0; s < streets.size(); s++) {
            int drained = 0;
            for (int b = streets.get(s)[0]; b <= streets.get(s)[1]; b++) {
                drained += (open >> b & 1) * boards.get(b)[2];
            }
            bits |= drained >= streets.get(s)[2] ? 1 << s : 0;
        }
        return bits;
    }

    int flood(int asked) {
        arg(asked >= 0 && asked < 1 << streets.size());
        int best = NONE;
        for (int set = 0; set < 1 << boards.size(); set++) {
            boolean fewer = best == NONE || Integer.bitCount(set) < Integer.bitCount(best);
            if (fewer && (holding(set) & asked) == asked) {
                best = set;
            }
        }
        return best;
    }

    int holds(int open) {
        arg(open >= 0 && open < 1 << boards.size());
        return holding(open);
    }

    // ---- smells

    private int scent(int b, int set) {
        int all = 0;
        for (int x = 0; x < boards.size(); x++) {
            if ((set >> x & 1) == 1 && b >= x && b - x <= smell) {
                all += smell + 1 - (b - x);
            }
        }
        return all;
    }

    int smells(int board, int set) {
        there(board, boards.size());
        arg(set >= 0 && set < 1 << boards.size());
        return scent(board, set);
    }

    private List<Integer> allOpeners() {
        List<Integer> list = new ArrayList<>();
        for (int set = 0; set < 1 << boards.size(); set++) {
            boolean right = true;
            for (int b : book.keySet()) {
                right &= scent(b, set) == book.get(b);
            }
            if (right) {
                list.add(set);
            }
        }
        return list;
    }

    int openers(int what) {
        arg(in(what, 0, 3));
        List<Integer> list = allOpeners();
        int and = (1 << boards.size()) - 1;
        int or = 0;
        for (int set : list) {
            and &= set;
            or |= set;
        }
        if (list.isEmpty()) {
            return what == 1 ? NONE : 0;
        }
        return new int[] {list.size(), list.get(0), and, (1 << boards.size()) - 1 & ~or}[what];
    }

    int nose(int what) {
        arg(in(what, 0, 1));
        List<Integer> list = allOpeners();
        int best = NONE;
        int fewest = NONE;
        for (int b = 0; b < boards.size(); b++) {
            if (book.containsKey(b)) {
                continue;
            }
            TreeMap<Integer, Integer> by = new TreeMap<>();
            for (int set : list) {
                by.merge(scent(b, set), 1, Integer::sum);
            }
            int most = by.values().stream().mapToInt(x -> x).max().orElse(0);
            if (best == NONE || most < fewest) {
                best = b;
                fewest = most;
            }
        }
        return what == 0 ? best : fewest;
    }

    // ---- anglers

    private void ways(int[] stand, int board, int left, List<int[]> all) {
        if (board == stand.length) {
            if (left == 0) {
                all.add(stand.clone());
            }
            return;
        }
        for (int n = 0; n <= left; n++) {
            stand[board] = n;
            ways(stand, board + 1, left - n, all);
        }
        stand[board] = 0;
    }

    private List<int[]> rests(int k) {
        List<int[]> all = new ArrayList<>();
        ways(new int[boards.size()], 0, k, all);
        List<int[]> rests = new ArrayList<>();
        for (int[] s : all) {
            boolean rest = true;
            for (int a = 0; a < s.length; a++) {
                for (int b = 0; b < s.length; b++) {
                    if (a != b && s[a] > 0) {
                        rest &= fish.getOrDefault(b, 0) / (s[b] + 1) <= fish.getOrDefault(a, 0) / s[a];
                    }
                }
            }
            if (rest) {
                rests.add(s);
            }
        }
        return rests;
    }

    int anglers(int k, int what) {
        arg(in(k, 0, 4) && in(what, 0, 1));
        List<int[]> rests = rests(k);
        if (what == 0) {
            return rests.size();
        }
        int all = 0;
        for (int b = 0; b < boards.size() && !rests.isEmpty(); b++) {
            int n = rests.get(0)[b];
            for (int i = 0; i < n; i++) {
                all += fish.getOrDefault(b, 0) / n;
            }
        }
        return rests.isEmpty() ? NONE : all;
    }

    int stand(int board, int k) {
        there(board, boards.size());
        arg(in(k, 0, 4));
        List<int[]> rests = rests(k);
        return rests.isEmpty() ? 0 : rests.get(0)[board];
    }

    // ---- walks

    private boolean firm(int b, int w) {
        return b >= 0 && b < boards.size() && !open(world, b) && boards.get(b)[1] >= w;
    }

    private int[] trodden(int from, int w) {
        int[] far = new int[boards.size()];
        Arrays.fill(far, NONE);
        ArrayDeque<Integer> next = new ArrayDeque<>();
        if (firm(from, w)) {
            far[from] = 1;
            next.add(from);
        }
        while (!next.isEmpty()) {
            int b = next.remove();
            for (int step : new int[] {-2, -1, 1, 2}) {
                if (firm(b + step, w) && far[b + step] == NONE) {
                    far[b + step] = far[b] + 1;
                    next.add(b + step);
                }
            }
        }
        return far;
    }

    int walk(int board, int other, int w) {
        there(board, boards.size());
        there(other, boards.size());
        arg(in(w, 0, 20));
        return trodden(board, w)[other];
    }

    int reach(int board, int w) {
        there(board, boards.size());
        arg(in(w, 0, 20));
        int bits = 0;
        for (int b = 0; b < boards.size(); b++) {
            bits |= trodden(board, w)[b] != NONE ? 1 << b : 0;
        }
        return bits;
    }

    // ---- hours ahead

    int peak(int what) {
        arg(in(what, 0, 1));
        World w = world.copy();
        int[] best = {0, -1};
        for (int h = 0; h < 240; h++) {
            if (howManyOpen(w) > best[1]) {
                best = new int[] {h, howManyOpen(w)};
            }
            hour(w, new HashSet<>());
        }
        return best[what];
    }

    int narrow(int m, int what) {
        arg(in(m, 0, 9) && in(what, 0, 2));
        int bits = 0;
        int longest = 0;
        int first = NONE;
        for (int a = 0; a < boards.size(); a++) {
            bits |= boards.get(a)[0] < m ? 1 << a : 0;
            int n = 0;
            while (a + n < boards.size() && boards.get(a + n)[0] >= m) {
                n++;
            }
            if (n > longest) {
                longest = n;
                first = a;
            }
        }
        return new int[] {bits, longest, first}[what];
    }

    int worst(int what) {
        arg(in(what, 0, 1));
        int[] row = what == 0 ? world.fined : world.knocks;
        int most = Arrays.stream(row).max().orElse(0);
        for (int b = 0; b < row.length && most > 0; b++) {
            if (row[b] == most) {
                return b;
            }
        }
        return NONE;
    }

    int ahead(int hours, int what) {
        arg(in(hours, 0, 240) && in(what, 0, 2));
        World w = world.copy();
        for (int h = 0; h < hours; h++) {
            hour(w, new HashSet<>());
        }
        return new int[] {w.through(), sum(w.fined), sum(w.knocks)}[what];
    }

    private int[] freeze(int seed, int q, int hours) {
        World w = world.copy();
        int frozenOpen = 0;
        long s = seed & 0xFFFFFFFFL;
        for (int h = 0; h < hours; h++) {
            Set<Integer> frozen = new HashSet<>();
            for (int b = 0; b < boards.size(); b++) {
                s = (s * 1103515245L + 12345L) % (1L << 32);
                if (s / 65536 % 32768 % 16 < q) {
                    frozen.add(b);
                    frozenOpen += open(w, b) ? 1 : 0;
                }
            }
            hour(w, frozen);
        }
        return new int[] {w.through(), sum(w.knocks) - sum(world.knocks), frozenOpen, sum(w.fined) - sum(world.fined)};
    }

    int winters(int seed, int q, int hours, int what) {
        arg(in(q, 0, 16) && in(hours, 1, 240) && in(what, 0, 3));
        return freeze(seed, q, hours)[what];
    }

    int span(int seed, int many, int q, int hours, int what) {
        arg(in(many, 1, 20) && in(q, 0, 16) && in(hours, 1, 240) && in(what, 0, 2));
        int fewest = Integer.MAX_VALUE;
        int most = 0;
        int all = 0;
        for (int i = 0; i < many; i++) {
            int[] got = freeze(seed + i, q, hours);
            fewest = Math.min(fewest, got[1]);
            most = Math.max(most, got[1]);
            all += got[0] == world.barges.size() ? 1 : 0;
        }
        return new int[] {fewest, most, all}[what];
    }

    // ---- images, counts

    int image() {
        if (images.size() == 3) {
            return -1;
        }
        Image i = new Image();
        i.world = world.copy();
        i.works = copyOf(works);
        images.push(i);
        return images.size();
    }

    private static ArrayDeque<World> copyOf(ArrayDeque<World> from) {
        ArrayDeque<World> to = new ArrayDeque<>();
        for (World w : from) {
            to.add(w.copy());
        }
        return to;
    }

    int restore() {
        if (images.isEmpty()) {
            return -1;
        }
        Image i = images.pop();
        world = i.world;
        works = i.works;
        refused = 0;
        return images.size();
    }

    int status(int what) {
        return what == 0 ? absent : what == 1 ? wrong : NONE;
    }

    int count(int what) {
        return what == 0 ? images.size() : what == 1 ? tape.length() : what == 2 ? works.size() : NONE;
    }
}
