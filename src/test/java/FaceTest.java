import java.io.IOException;
import java.lang.reflect.Constructor;
import java.lang.reflect.Field;
import java.lang.reflect.Method;
import java.lang.reflect.Modifier;
import java.nio.file.Files;
import java.nio.file.Path;
import java.util.ArrayList;
import java.util.HashSet;
import java.util.List;
import java.util.Set;
import java.util.TreeSet;

/** The public face, and those rules of LANGUAGE.md that can be looked at from outside. Runs in the project's folder. */
public final class FaceTest {
    private static final String[] FACE = {
        "int feed 5", "int river 1", "int law 1", "int work 1", "int book 1", "int fault 0", "int undo 0", "int told 1",
        "int board 2", "int barge 2", "int street 2", "boolean lawful 3", "int opens 1", "int often 2", "int busiest 0",
        "int trip 3", "int soonest 3", "int hold 2", "int tallest 1", "int letter 2", "int flood 1", "int holds 1",
        "int smells 2", "int openers 1", "int nose 1", "int anglers 2", "int stand 2", "int walk 3", "int reach 2",
        "int peak 1", "int narrow 2", "int worst 1", "int ahead 2", "int winters 4", "int span 5", "int image 0",
        "int restore 0", "int status 1", "int count 1"};

    public static void main(String[] args) throws IOException {
        face();
        insides();
        source();
        Checks.end();
    }

    private static void face() {
        Class<?> type = LiddedRiver.class;
        Checks.same("public and final", type.getModifiers() & (Modifier.PUBLIC | Modifier.FINAL),
            Modifier.PUBLIC | Modifier.FINAL);
        Set<String> due = new TreeSet<>(List.of(FACE));
        Set<String> found = new TreeSet<>();
        for (Method m : type.getDeclaredMethods()) {
            if (!Modifier.isPrivate(m.getModifiers())) {
                found.add(m.getReturnType() + " " + m.getName() + " " + m.getParameterCount());
                Checks.same(m + " is public alone", m.getModifiers(), Modifier.PUBLIC);
            }
        }
        if (!found.equals(due)) {
            Checks.say("the face is " + found);
        }
        for (Field f : type.getDeclaredFields()) {
            if (!Modifier.isPrivate(f.getModifiers()) && !f.getName().equals("NONE")) {
                Checks.say("not private: " + f);
            }
        }
        for (Constructor<?> c : type.getDeclaredConstructors()) {
            Checks.same(c + " is public", c.getModifiers(), Modifier.PUBLIC);
            Checks.same(c + " takes nothing", c.getParameterCount(), 0);
        }
    }

    private static void insides() {
        Set<String> names = new HashSet<>();
        for (String method : FACE) {
            names.add(method.split(" ")[1]);
        }
        List<Class<?>> types = new ArrayList<>(List.of(LiddedRiver.class.getDeclaredClasses()));
        Checks.same("no more than twelve classes", types.size() + 1 <= 12 ? 1 : 0, 1);
        for (Class<?> type : types) {
            Checks.same(type + " is static", Modifier.isStatic(type.getModifiers()) ? 1 : 0, 1);
            for (Method m : type.getDeclaredMethods()) {
                if (names.contains(m.getName())) {
                    Checks.say("bears a name of the face: " + m);
                }
            }
        }
        types.add(LiddedRiver.class);
        for (Class<?> type : types) {
            int fields = 0;
            for (Field f : type.getDeclaredFields()) {
                fields += Modifier.isStatic(f.getModifiers()) ? 0 : 1;
                if (Modifier.isStatic(f.getModifiers()) && !Modifier.isFinal(f.getModifiers())) {
                    Checks.say("static state: " + f);
                }
            }
            Checks.same(type + " has twenty fields or fewer", fields <= 20 ? 1 : 0, 1);
            for (Method m : type.getDeclaredMethods()) {
                Checks.same(m + " takes seven or fewer", m.getParameterCount() <= 7 ? 1 : 0, 1);
                if (Modifier.isPrivate(m.getModifiers()) && type == LiddedRiver.class && names.contains(m.getName())) {
                    Checks.say("private with a name of the face: " + m);
                }
            }
        }
    }

    private static void source() throws IOException {
        String source = Files.readString(Path.of("src/main/java/LiddedRiver.java"));
        String[] outside = {"->", "::", "catch", "finally", "assert ", "synchronized", "package ", "System.out",
            "Integer.MAX_VALUE", "\" +", "+ \"", "Random", "Exact(", "instanceof"};
        for (String word : outside) {
            if (source.contains(word)) {
                Checks.say("outside the language: " + word);
            }
        }
        for (int i = 0; i < source.length(); i++) {
            if (source.charAt(i) > 126) {
                Checks.say("a sign above 126 at " + i);
            }
        }
        for (String line : source.split("\n")) {
            if (line.startsWith("import ") && !List.of("import java.util.Arrays;",
                    "import java.util.NoSuchElementException;").contains(line)) {
                Checks.say("outside the library: " + line);
            }
        }
    }
}
