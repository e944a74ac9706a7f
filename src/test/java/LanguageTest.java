import java.lang.reflect.Constructor;
import java.lang.reflect.Field;
import java.lang.reflect.Member;
import java.lang.reflect.Method;
import java.lang.reflect.Modifier;
import java.nio.charset.StandardCharsets;
import java.nio.file.Files;
import java.nio.file.Path;
import java.util.Arrays;
import java.util.Set;
import java.util.TreeSet;
import java.util.regex.Matcher;
import java.util.regex.Pattern;

/** The face of the class, and those rules of its language that can be looked up. */
public final class LanguageTest {
    private static final String[] FACE = {"write(int)int", "wipe()int", "fault()int", "net()int", "about(int)int",
        "minutes(int,int)int", "put(int,int,int)int", "cut(int,int)int", "time(int,int,int)int", "undo()int",
        "pace(boolean)int", "critical(int,int)int", "departs(int,int)int", "spare(int,int,int)int",
        "late(int,int,int,int,int)int", "dies(int,int,int)int", "best(int)int", "judge(int,long)int",
        "share(int,boolean)int", "see(int,int,int)int", "unsee()int", "began(int)int",
        "dropped(int,int,int,boolean)int", "seed(long)long", "drawn(int)int", "keep(int)int", "again(int)int"};
    private static final Set<String> CONSTANTS = Set.of("UNKNOWN", "BAD", "LATE", "FULL", "NONE");
    private static final String[] RULED_OUT = {"\\bthrow", "\\btry\\b", "\\bcatch\\b", "\\bfinally\\b",
        "\\bsynchronized\\b", "\\bassert\\b", "->", "::", "Exact\\b", "\\bpackage\\b", "\\bThread\\b", "\\bObject\\b",
        "\\bnative\\b", "\\bvolatile\\b", "\\bprotected\\b", "\\bnanoTime\\b", "\\bcurrentTimeMillis\\b", "\\bRandom\\b",
        "import (?!java\\.util\\.(Arrays|ArrayList|List);)", "\\bSystem\\.(?!arraycopy\\b)",
        "\\bArrays\\.(?!(copyOf|copyOfRange|fill)\\b)", "\\bMath\\.(?!(max|min|abs|floorDiv|floorMod)\\b)",
        "\\bInteger\\.(?!(compare|max|min|bitCount)\\b)", "static \\{"};

    private static final Due DUE = new Due("LanguageTest");

    private LanguageTest() {
    }

    public static void main(String[] args) throws Exception {
        face();
        members();
        source();
        DUE.end();
    }

    private static void face() throws Exception {
        Class<?> c = TurnRounds.class;
        DUE.so("1 public and final", Modifier.isPublic(c.getModifiers()) && Modifier.isFinal(c.getModifiers()));
        Set<String> found = new TreeSet<>();
        for (Method m : c.getDeclaredMethods()) {
            if (!Modifier.isPrivate(m.getModifiers()) && !m.isSynthetic()) {
                DUE.so("1 public, not static: " + m, m.getModifiers() == Modifier.PUBLIC);
                found.add(signature(m));
            }
        }
        Set<String> face = new TreeSet<>(Arrays.asList(FACE));
        DUE.so("1 the face is " + found, found.equals(face));
        Constructor<?>[] made = c.getDeclaredConstructors();
        DUE.so("1 one constructor", made.length == 1 && made[0].getParameterCount() == 0
                && Modifier.isPublic(made[0].getModifiers()));
        for (Field f : c.getDeclaredFields()) {
            boolean isConstant = CONSTANTS.contains(f.getName());
            DUE.so("1 public or private: " + f, isConstant
                    ? f.getModifiers() == (Modifier.PUBLIC | Modifier.STATIC | Modifier.FINAL) && f.getType() == int.class
                    : Modifier.isPrivate(f.getModifiers()));
        }
        int[] values = {TurnRounds.UNKNOWN, TurnRounds.BAD, TurnRounds.LATE, TurnRounds.FULL, TurnRounds.NONE};
        DUE.so("1 the constants", Arrays.equals(values, new int[] {-1, -2, -3, -4, -9}));
    }

    private static String signature(Method m) {
        StringBuilder text = new StringBuilder(m.getName()).append('(');
        for (Class<?> type : m.getParameterTypes()) {
            text.append(text.charAt(text.length() - 1) == '(' ? "" : ",").append(type);
        }
        return text.append(')').append(m.getReturnType()).toString();
    }

    private static void members() {
        Set<String> names = new TreeSet<>();
        for (String f : FACE) {
            names.add(f.substring(0, f.indexOf('(')));
        }
        Class<?>[] inside = TurnRounds.class.getDeclaredClasses();
        DUE.so("11 classes: " + inside.length, inside.length < 12);
        for (Class<?> c : inside) {
            DUE.so("1 static: " + c, Modifier.isStatic(c.getModifiers()) && !Modifier.isPublic(c.getModifiers()));
            look(c, names);
        }
        look(TurnRounds.class, names);
    }

    private static void look(Class<?> c, Set<String> names) {
        int fields = 0;
        for (Field f : c.getDeclaredFields()) {
            boolean isStatic = Modifier.isStatic(f.getModifiers());
            DUE.so("5 static and not final: " + f, !isStatic || Modifier.isFinal(f.getModifiers()));
            fields += isStatic ? 0 : 1;
        }
        DUE.so("11 fields of " + c + ": " + fields, fields <= 20);
        for (Method m : c.getDeclaredMethods()) {
            DUE.so("11 parameters of " + m, m.getParameterCount() <= 7);
            DUE.so("1 bears the name of a public one: " + m, isOfFace(m) || !names.contains(m.getName()));
        }
    }

    private static boolean isOfFace(Member m) {
        return m.getDeclaringClass() == TurnRounds.class && Modifier.isPublic(m.getModifiers());
    }

    private static void source() throws Exception {
        String text = Files.readString(Path.of("src/main/java/TurnRounds.java"), StandardCharsets.ISO_8859_1);
        for (int i = 0; i < text.length(); i++) {
            if (text.charAt(i) > 126) {
                DUE.so("4 a sign beyond 127 at " + i, false);
            }
        }
        String code = text.replaceAll("(?s)/\\*.*?\\*/", "").replaceAll("//[^\n]*", "");
        for (String no : RULED_OUT) {
            Matcher found = Pattern.compile(no).matcher(code);
            DUE.so("ruled out: " + no, !found.find());
        }
        methodLengths(code);
    }

    /** A method begins and ends with lines of the same depth, four or eight spaces. */
    private static void methodLengths(String code) {
        Matcher methods = Pattern.compile("(?ms)^( {4}| {8})[a-zA-Z][^\n;=]*\\) \\{\n(.*?)^\\1\\}").matcher(code);
        int count = 0;
        while (methods.find()) {
            count++;
            long lines = methods.group(2).lines().filter(line -> !line.isBlank()).count();
            DUE.so("11 a method of " + lines + " lines: " + methods.group().lines().findFirst().orElse(""), lines <= 60);
        }
        DUE.so("11 methods found: " + count, count > 60);
    }
}
