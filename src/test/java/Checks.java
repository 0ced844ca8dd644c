import java.lang.reflect.InvocationTargetException;
import java.util.Arrays;
import java.util.NoSuchElementException;
import java.util.function.IntSupplier;

/** What the project's tests share: counting what is not as due, and texts by the tape. */
final class Checks {
    private static int wrong;

    private Checks() {
    }

    static void same(String what, long got, long due) {
        if (got != due) {
            say(what + " answered " + got + ", due is " + due);
        }
    }

    static void say(String fault) {
        wrong++;
        System.out.println(fault);
    }

    /** 0 nothing, 1 NoSuchElementException, 2 IllegalArgumentException. */
    static int thrownBy(IntSupplier call) {
        try {
            call.getAsInt();
            return 0;
        } catch (NoSuchElementException e) {
            return 1;
        } catch (IllegalArgumentException e) {
            return 2;
        }
    }

    /** It throws NoSuchElementException, and is counted as such a one alone. */
    static void absent(String what, LiddedRiver x, IntSupplier call) {
        refused(what, x, call, 1);
    }

    /** It throws IllegalArgumentException, and is counted as such a one alone. */
    static void argument(String what, LiddedRiver x, IntSupplier call) {
        refused(what, x, call, 2);
    }

    private static void refused(String what, LiddedRiver x, IntSupplier call, int due) {
        int absents = x.status(0);
        int arguments = x.status(1);
        same(what + " throws (1 NoSuchElementException, 2 IllegalArgumentException)", thrownBy(call), due);
        same("status(0) behind " + what, x.status(0), absents + (due == 1 ? 1 : 0));
        same("status(1) behind " + what, x.status(1), arguments + (due == 2 ? 1 : 0));
    }

    /** What a call answers, or "throws." and the exception's name, whatever is thrown. */
    static String answer(Object object, String name, Object... args) {
        Class<?>[] ints = new Class<?>[args.length];
        Arrays.fill(ints, int.class);
        try {
            return String.valueOf(object.getClass().getDeclaredMethod(name, ints).invoke(object, args));
        } catch (InvocationTargetException e) {
            return "throws." + e.getCause().getClass().getSimpleName();
        } catch (ReflectiveOperationException e) {
            throw new IllegalStateException(e);
        }
    }

    static void same(String what, String got, String due) {
        if (!got.equals(due)) {
            say(what + " answered " + got + ", due is " + due);
        }
    }

    static void end() {
        if (wrong > 0) {
            System.out.println(wrong + " wrong");
            System.exit(1);
        }
    }

    // ---- texts

    static int word(String text, int at) {
        int word = 0;
        for (int i = at; i < at + 4; i++) {
            word = word << 8 | (i < text.length() ? text.charAt(i) & 255 : 0);
        }
        return word;
    }

    /** Puts a text on the tape; behind it zeros up to twenty bytes. */
    static int feed(LiddedRiver x, String text) {
        for (int at = 0; at < text.length(); at += 20) {
            x.feed(word(text, at), word(text, at + 4), word(text, at + 8), word(text, at + 12), word(text, at + 16));
        }
        return text.length();
    }

    static int river(LiddedRiver x, String text) {
        return x.river(feed(x, text));
    }

    static int law(LiddedRiver x, String text) {
        return x.law(feed(x, text));
    }

    static int work(LiddedRiver x, String text) {
        return x.work(feed(x, text));
    }

    static int book(LiddedRiver x, String text) {
        return x.book(feed(x, text));
    }

    /** A text of a kind by its name: river, law, work or book. */
    static int text(LiddedRiver x, String kind, String text) {
        switch (kind) {
            case "river": return river(x, text);
            case "law": return law(x, text);
            case "work": return work(x, text);
            default: return book(x, text);
        }
    }

    static LiddedRiver of(String river) {
        LiddedRiver x = new LiddedRiver();
        if (river(x, river) < 0) {
            say("no such river: " + river);
        }
        return x;
    }
}
