import java.lang.reflect.Method;
import java.lang.reflect.Modifier;
import java.util.ArrayList;
import java.util.Arrays;
import java.util.Comparator;
import java.util.List;
import java.util.Random;

/** Long runs of drawn calls, each answered by LiddedRiver and by PlainRiver alike; the seeds are always the same. */
public final class ModelTest {
    private static final int RUNS = Integer.getInteger("runs", 300);
    private static final int FIRST = Integer.getInteger("first", 1);
    private static final int CALLS = 500;

    private final Random random;
    private final LiddedRiver river = new LiddedRiver();
    private final PlainRiver plain = new PlainRiver();
    private final List<String> past = new ArrayList<>();
    private final int run;
    private int calls;
    private int boards;
    private boolean failed;
    /** Whether the text that is drawn now may have numbers that are none such, or too many of something. */
    private boolean wild;

    private ModelTest(int run) {
        this.run = run;
        this.random = new Random(run * 7919L);
    }

    public static void main(String[] args) {
        for (int run = FIRST; run < FIRST + RUNS; run++) {
            new ModelTest(run).go();
        }
        Checks.end();
    }

    private static final List<Method> ASKED = asked();

    private static List<Method> asked() {
        List<Method> list = new ArrayList<>();
        for (Method m : LiddedRiver.class.getDeclaredMethods()) {
            boolean text = Arrays.asList("feed", "river", "law", "work", "book", "image", "undo", "restore").contains(m.getName());
            if (Modifier.isPublic(m.getModifiers()) && !text) {
                list.add(m);
            }
        }
        list.sort(Comparator.comparing(Method::getName));
        return list;
    }

    private void go() {
        while (calls < CALLS && !failed) {
            int kind = random.nextInt(40);
            wild = below(4) == 0;
            if (calls == 0 || kind == 0 && random.nextInt(6) == 0) {
                text("river", riverText(), 600);
                boards = river.told(0);
            } else if (kind <= 1) {
                text("law", lawText(0), 150);
            } else if (kind <= 5) {
                text("work", workText(0), 150);
            } else if (kind <= 7) {
                text("book", bookText(), 100);
            } else if (kind <= 9) {
                both(random.nextBoolean() ? "undo" : random.nextBoolean() ? "image" : "restore");
            } else {
                Method m = ASKED.get(random.nextInt(ASKED.size()));
                both(m.getName(), draw(m));
            }
        }
    }

    // ---- drawn texts

    private int below(int n) {
        return random.nextInt(n);
    }

    private String number(int least, int most) {
        int wide = wild && below(40) == 0 ? most + 1 + below(3) : least + below(most - least + 1);
        return (below(80) == 0 ? "00" : "") + wide;
    }

    private String riverText() {
        StringBuilder s = new StringBuilder();
        int many = below(4) == 0 ? 12 + below(wild ? 6 : 5) : below(11);
        for (int i = 0; i < many; i++) {
            s.append("board ").append(number(0, 9)).append(' ').append(number(0, 20)).append(' ').append(number(0, 9)).append(';');
            while (below(5) == 0) {
                s.append(clause(i + 1));
            }
        }
        for (int i = below(wild ? 6 : 5); i > 0; i--) {
            s.append("barge ").append(number(0, 9)).append(' ').append(number(0, below(2) == 0 ? 5 : 95)).append(';');
        }
        for (int i = below(wild && below(3) == 0 ? 70 : 8); i > 0; i--) {
            s.append(clause(many));
        }
        return s.length() > 600 ? s.substring(0, s.lastIndexOf(";", 599) + 1) : s.toString();
    }

    private String clause(int many) {
        int last = Math.max(0, many - 1);
        switch (many == 0 ? below(2) : below(4)) {
            case 0: return "flow " + number(1, 4) + " ;";
            case 1: return "smell " + number(0, 4) + ";";
            case 2: return "fish " + number(0, last) + " " + number(0, 40) + ";";
            default:
                int from = below(last + 1);
                return "street " + from + " " + (from + below(last - from + 1)) + " " + number(1, below(2) == 0 ? 9 : 40) + ";";
        }
    }

    private String lawText(int deep) {
        StringBuilder s = new StringBuilder();
        for (int i = below(3); i >= 0; i--) {
            s.append(unit(deep));
            if (i > 0) {
                s.append(new String[] {"+", "-", " - ", "*", "/", "%"}[below(6)]);
            }
        }
        return s.toString();
    }

    private String unit(int deep) {
        int kind = below(deep < (wild ? 7 : 6) ? 14 : 11);
        if (kind < 8) {
            return new String[] {"hour", "day", "board", "clear", "bears", "drains", "fish", "fined"}[kind];
        }
        if (kind < 11) {
            return number(0, below(3) == 0 ? 999 : 24);
        }
        if (kind == 11) {
            return "(" + lawText(deep + 1) + ")";
        }
        return (kind == 12 ? "least[" : "most [") + lawText(deep + 1) + "," + lawText(deep + 1) + "]";
    }

    private String workText(int deep) {
        StringBuilder s = new StringBuilder();
        for (int i = below(5); i > 0; i--) {
            int kind = below(deep < (wild ? 7 : 6) ? 8 : 7);
            if (kind < 4 && boards > 0) {
                s.append(new String[] {"lift ", "shut ", "leave ", "shut"}[kind]).append(number(0, Math.max(0, boards - 1)));
            } else if (kind < 7) {
                s.append("hour");
            } else {
                s.append("again ").append(number(0, below(4) == 0 ? 60 : 9)).append(" [").append(workText(deep + 1)).append(']');
            }
            s.append(';');
        }
        return s.toString();
    }

    /** Mostly what some set would make one smell, so that there are OPENERS. */
    private String bookText() {
        StringBuilder s = new StringBuilder();
        int set = boards == 0 ? 0 : below(1 << boards);
        List<Integer> order = new ArrayList<>();
        for (int b = 0; b < boards; b++) {
            order.add(b);
        }
        java.util.Collections.shuffle(order, random);
        for (int i = 0; i < order.size() && i < below(15); i++) {
            int b = wild && below(10) == 0 ? below(boards + 1) : order.get(i);
            int n = b >= boards || below(20) == 0 ? below(12) : plain.smells(b, set);
            s.append(b).append(' ').append(n).append(';');
        }
        return s.toString();
    }

    private String spoilt(String text) {
        if (text.isEmpty() || below(8) != 0) {
            return text;
        }
        int at = below(text.length());
        switch (below(4)) {
            case 0: return text.substring(0, at);
            case 1: return text.substring(0, at) + text.substring(at + 1);
            case 2: return text.substring(0, at) + ";[](),+-*/%0 9az\u00e9\0".charAt(below(18)) + text.substring(at);
            default: return text.substring(0, at) + "  " + text.substring(at);
        }
    }

    private void text(String name, String drawn, int most) {
        String text = spoilt(drawn);
        if (text.length() > most && below(10) != 0) {
            text = text.substring(0, most);
        }
        for (int at = 0; at < text.length(); at += 20) {
            both("feed", Checks.word(text, at), Checks.word(text, at + 4), Checks.word(text, at + 8),
                Checks.word(text, at + 12), Checks.word(text, at + 16));
        }
        both(name, below(60) == 0 ? below(700) - 20 : text.length());
        past.add("   of \"" + text + "\"");
        both("fault");
        both("told", 9);
        if (below(5) == 0) {
            both(name, below(3) - 1);
        }
    }

    // ---- drawn calls

    private Object[] draw(Method m) {
        Object[] args = new Object[m.getParameterCount()];
        for (int i = 0; i < args.length; i++) {
            args[i] = argument(m.getName(), i);
        }
        return args;
    }

    private int argument(String name, int i) {
        if (below(50) == 0) {
            return new int[] {-1, 17, 49, 241, 1 << 20, Integer.MIN_VALUE, Integer.MAX_VALUE}[below(7)];
        }
        int anyBoard = below(boards + 1 + (below(20) == 0 ? 1 : 0));
        int board = boards > 0 && below(20) != 0 ? below(boards) : anyBoard;
        int what = below(4);
        int boardBits = below(1 << boards);
        switch (name + i) {
            case "told0": return below(11);
            case "board1": return below(9);
            case "barge0": return below(3);
            case "barge1": return below(6);
            case "street0": return below(4);
            case "street1": return below(5);
            case "lawful1": return below(24);
            case "lawful2": return below(100);
            case "often1": return below(242);
            case "trip0": case "soonest0": case "hold0": case "narrow0": return below(11);
            case "trip1": case "soonest1": case "hold1": case "tallest0": return below(below(2) == 0 ? 50 : 8);
            case "flood0": return below(1 << Math.min(8, plain.told(2) + (below(9) == 0 ? 1 : 0)));
            case "holds0": case "smells1": return below(20) == 0 ? 1 << boards : boardBits;
            case "anglers0": case "stand1": return below(6);
            case "walk2": case "reach1": return below(22);
            case "ahead0": return below(242);
            case "winters0": case "span0": return random.nextInt();
            case "winters1": case "span2": return below(18);
            case "span1": return below(22);
            case "winters2": case "span3": return below(below(3) == 0 ? 242 : 40);
            case "winters3": return below(5);
            case "board0": case "lawful0": case "opens0": case "often0": case "letter0": case "smells0":
            case "stand0": case "walk0": case "walk1": case "reach0": return board;
            default: return what;
        }
    }

    // ---- both answers

    private void both(String name, Object... args) {
        if (failed) {
            return;
        }
        calls++;
        String call = name + Arrays.toString(args);
        String got = Checks.answer(river, name, args);
        String due = Checks.answer(plain, name, args);
        past.add(call + " -> " + due);
        if (!got.equals(due)) {
            failed = true;
            Checks.say("run " + run + ": " + call + " answered " + got + ", due is " + due + ", behind:");
            for (String line : past) {
                System.out.println("    " + line);
            }
        }
    }
}
