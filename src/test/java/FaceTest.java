import java.lang.management.ManagementFactory;
import java.lang.reflect.Constructor;
import java.lang.reflect.Field;
import java.lang.reflect.Method;
import java.lang.reflect.Modifier;
import java.nio.file.Files;
import java.nio.file.Path;
import java.util.HashSet;
import java.util.List;
import java.util.Set;
import java.util.TreeSet;
import java.util.regex.Matcher;
import java.util.regex.Pattern;

/** The class's face, the language that it keeps to, and the room that its calls take. */
public final class FaceTest {
    private static final Check CHECK = new Check("FaceTest");
    private static final Path SOURCE = Path.of("src/main/java/LightYearsAreOwed.java");
    private static final String FACE = "int set(int,int,int);int light(int,int,int);"
            + "int look(int,int,int);int told(int,int);int feed(int);int text();int force(int);"
            + "int owes(int,int,int);int all(int);int pieces(int,int);int pay(int);"
            + "int cheapest(int,int,int);int leave(int,int);int farm(int,int);"
            + "int walk(int,int,int);int tells(int,int,int);int film(int,int);int drawn(int);"
            + "long chance(int,int,int,int);int image();int back();int count(int);"
            + "int sheet(int,int,int);int cell(int,int,int);int copy(int,int,int,int,int);"
            + "int lights(int,int,int,int);int taken(int,int)";

    public static void main(String[] args) throws Exception {
        constants();
        members();
        insideClasses();
        forbiddenWords();
        shortMethods();
        room();
        CHECK.end();
    }

    private static void constants() {
        CHECK.due("NONE", LightYearsAreOwed.NONE, -1);
        CHECK.due("BAD", LightYearsAreOwed.BAD, -2);
        CHECK.due("STATE", LightYearsAreOwed.STATE, -3);
        CHECK.due("FULL", LightYearsAreOwed.FULL, -4);
        CHECK.due("NO", LightYearsAreOwed.NO, -4611686018427387904L);
    }

    private static void members() {
        Class<?> c = LightYearsAreOwed.class;
        CHECK.isTrue("public and final", Modifier.isPublic(c.getModifiers())
                && Modifier.isFinal(c.getModifiers()));
        Set<String> found = new TreeSet<>();
        Set<String> names = new HashSet<>();
        Set<String> hidden = new TreeSet<>();
        for (Method m : c.getDeclaredMethods()) {
            if (Modifier.isPrivate(m.getModifiers())) {
                hidden.add(m.getName());
                continue;
            }
            StringBuilder s = new StringBuilder(m.getReturnType() + " " + m.getName() + "(");
            for (Class<?> p : m.getParameterTypes()) {
                s.append(s.charAt(s.length() - 1) == '(' ? "" : ",").append(p);
            }
            found.add(s + ")");
            names.add(m.getName());
            CHECK.isTrue(m + " is public, not static",
                    m.getModifiers() == Modifier.PUBLIC);
        }
        CHECK.isTrue("the face's methods: " + found,
                found.equals(new TreeSet<>(List.of(FACE.split(";")))));
        hidden.retainAll(names);
        CHECK.isTrue("no private method bears a public one's name: " + hidden, hidden.isEmpty());
        Set<String> constants = new TreeSet<>();
        for (Field f : c.getDeclaredFields()) {
            if (!Modifier.isPrivate(f.getModifiers())) {
                constants.add(f.getType() + " " + f.getName());
            }
            CHECK.isTrue(f + ": a static field is final",
                    !Modifier.isStatic(f.getModifiers()) || Modifier.isFinal(f.getModifiers()));
        }
        CHECK.isTrue("the face's constants: " + constants, constants.equals(new TreeSet<>(List.of(
                "int NONE", "int BAD", "int STATE", "int FULL", "long NO"))));
        Constructor<?>[] made = c.getDeclaredConstructors();
        CHECK.isTrue("one constructor without parameters", made.length == 1
                && made[0].getParameterCount() == 0 && Modifier.isPublic(made[0].getModifiers()));
    }

    private static void insideClasses() {
        Class<?>[] inside = LightYearsAreOwed.class.getDeclaredClasses();
        CHECK.isTrue("some twelve classes at most", inside.length < 12);
        for (Class<?> c : inside) {
            CHECK.isTrue(c + " is static, not public", Modifier.isStatic(c.getModifiers())
                    && !Modifier.isPublic(c.getModifiers()));
            int fields = 0;
            for (Field f : c.getDeclaredFields()) {
                fields += Modifier.isStatic(f.getModifiers()) ? 0 : 1;
            }
            CHECK.isTrue(c + " has some twenty fields at most: " + fields, fields <= 20);
            for (Method m : c.getDeclaredMethods()) {
                CHECK.isTrue(m + " has seven parameters at most", m.getParameterCount() <= 7);
            }
        }
    }

    private static String code() throws Exception {
        return Files.readString(SOURCE).replaceAll("(?s)/\\*.*?\\*/", "").replaceAll("//[^\n]*", "");
    }

    private static void forbiddenWords() throws Exception {
        String whole = Files.readString(SOURCE);
        CHECK.isTrue("signs 1 to 127 alone", whole.chars().allMatch(c -> c > 0 && c < 128));
        String[] forbidden = {"\\b(throw|throws|try|catch|finally|synchronized|assert)\\b",
            "\\b(import|package|native|transient|volatile|strictfp|record|enum|interface)\\b",
            "->", "::", "Exact\\b", "\\bstatic\\s*\\{", "\\b(Object|Class|Thread|Random)\\b",
            "System\\.(?!arraycopy)", "\\b(float|double)\\b", "\\b(equals|hashCode|toString)\\b",
            "\"\\s*\\+|\\+\\s*\""};
        String code = code();
        for (String word : forbidden) {
            Matcher m = Pattern.compile(word).matcher(code);
            CHECK.isTrue("no " + word, !m.find());
        }
    }

    /** From the line of a method's head to the line that closes it. */
    private static void shortMethods() throws Exception {
        String[] lines = Files.readString(SOURCE).split("\n");
        int methods = 0;
        for (int i = 0; i < lines.length; i++) {
            Matcher m = Pattern.compile("^( {4}| {8})(?! |class|private static final class)[\\w\\[\\] ]+"
                    + "\\([^)]*\\) \\{$").matcher(lines[i]);
            if (m.find() && !lines[i].trim().matches("(if|for|while|switch|else|return).*")) {
                int end = i;
                while (!lines[end].equals(m.group(1) + "}")) {
                    end++;
                }
                methods++;
                CHECK.isTrue(lines[i].trim() + " has some sixty lines at most", end - i < 60);
            }
        }
        CHECK.isTrue("methods were found: " + methods, methods > 60);
    }

    private static long allocated() {
        return ((com.sun.management.ThreadMXBean) ManagementFactory.getThreadMXBean())
                .getCurrentThreadAllocatedBytes();
    }

    private static int fullRun(LightYearsAreOwed x) {
        int sum = x.light(1, 9, 10) + x.light(3, 9, 10) + x.light(0, 1, 10);
        for (int one = 0; one < 5; one++) {
            sum += x.look(one, 0, 4095) + x.look(one, 1, 255) + x.look(one, 2, 7);
        }
        for (int i = 0; i < 32; i++) {
            sum += Told.text(x, "d") + x.film(i % 4, i % 5) + x.sheet(i % 4, 2, 3);
            sum += x.tells(i % 4, i % 5, i % 3) + x.tells(i % 4, i % 5, 30) + x.drawn(i);
            sum += (int) x.chance(i, 20, 100, 0) + x.image() + x.back() + x.pieces(999, 1);
            sum += x.cheapest(0, 0, 0) + x.farm(0, 99999) + x.walk(3, 5, 0) + x.all(1);
        }
        return sum;
    }

    /** A word is 8 bytes at most: what is made in an object's life stays far below the room. */
    private static void room() {
        int sum = 0;
        for (int warm = 0; warm < 3; warm++) {
            sum += fullRun(new LightYearsAreOwed());
        }
        long before = allocated();
        LightYearsAreOwed x = new LightYearsAreOwed();
        long made = allocated();
        sum += fullRun(x);
        long after = allocated();
        CHECK.isTrue("an object is small: " + (made - before), made - before < 20000);
        CHECK.isTrue("calls make nothing: " + (after - made), after - made < 4096);
        CHECK.isTrue("the runs ran", sum != 0);
    }
}
