import java.io.IOException;
import java.lang.reflect.Constructor;
import java.lang.reflect.Field;
import java.lang.reflect.Method;
import java.lang.reflect.Modifier;
import java.nio.file.Files;
import java.nio.file.Path;
import java.util.Set;
import java.util.TreeSet;
import java.util.regex.Matcher;
import java.util.regex.Pattern;

/** The public face is the document's and no more; and what a test can see of the rules of LANGUAGE.md. */
public final class FaceTest {
    private static final String[] FACE = {"int sign(int)", "boolean end(int)", "int houses()", "int heat()", "int rule()",
        "int house(int,int)", "int letter(int,int)", "int sheet(int,int,int,int)", "int order()", "int name(int)",
        "int marry(int,int)", "int days(int)", "int year()", "int undo()", "int book()", "int yields(int)", "int stops()",
        "int dry(int,int)", "int waits()", "int fewest()", "int likes(int)", "int rounds(int)", "int votes()", "int sways()",
        "int initial(int)", "int matches()", "int lines()", "int lot(int)", "int shares(int)", "int saw(int,int)",
        "int forget()", "int fits()", "int sure(int,int)", "int ask()", "int law()", "int rests(int)", "int years(int,int)",
        "boolean keep(int)", "boolean again(int)", "int count(int)", "long row(int)"};
    private static final Path SOURCE = Path.of("src/main/java/WaterByLetters.java");
    private static int wrong = 0;

    public static void main(String[] args) throws IOException {
        face();
        namesOfMethods();
        staticFields();
        source();
        System.out.println(wrong == 0 ? "the face is as due" : wrong + " faults of the face");
        if (wrong != 0) {
            System.exit(1);
        }
    }

    private static void check(boolean right, String what) {
        if (!right) {
            wrong++;
            System.out.println(what);
        }
    }

    private static void face() {
        Class<?> c = WaterByLetters.class;
        check(c.getModifiers() == (Modifier.PUBLIC | Modifier.FINAL), "the class is not public final alone");
        Set<String> due = new TreeSet<>(Set.of(FACE));
        Set<String> got = new TreeSet<>();
        for (Method m : c.getDeclaredMethods()) {
            if (!Modifier.isPrivate(m.getModifiers())) {
                check(m.getModifiers() == Modifier.PUBLIC, m + " is not public alone");
                StringBuilder s = new StringBuilder(m.getReturnType() + " " + m.getName() + "(");
                for (int i = 0; i < m.getParameterCount(); i++) {
                    s.append(i > 0 ? "," : "").append(m.getParameterTypes()[i]);
                }
                got.add(s.append(')').toString());
            }
        }
        check(due.equals(got), "due are " + due + ", there are " + got);
        for (Field f : c.getDeclaredFields()) {
            check(Modifier.isPrivate(f.getModifiers()) || f.getName().equals("NONE"), f + " is not private");
        }
        Constructor<?>[] made = c.getDeclaredConstructors();
        check(made.length == 1 && made[0].getParameterCount() == 0 && made[0].getModifiers() == Modifier.PUBLIC,
                "another constructor");
    }

    private static void namesOfMethods() {
        Set<String> faces = new TreeSet<>();
        for (String s : FACE) {
            faces.add(s.substring(s.indexOf(' ') + 1, s.indexOf('(')));
        }
        for (Method m : WaterByLetters.class.getDeclaredMethods()) {
            check(Modifier.isPublic(m.getModifiers()) || !faces.contains(m.getName()), "a private " + m.getName());
            check(!m.isSynthetic(), "a method that is not written: " + m);
        }
        Class<?>[] inside = WaterByLetters.class.getDeclaredClasses();
        check(inside.length <= 11, "too many classes");
        for (Class<?> c : inside) {
            check(Modifier.isStatic(c.getModifiers()) && !Modifier.isPublic(c.getModifiers()), c + " is not static, private");
            for (Method m : c.getDeclaredMethods()) {
                check(!faces.contains(m.getName()), c + " has a method " + m.getName());
                check(m.getParameterCount() <= 7, m + " takes too much");
            }
        }
    }

    private static void staticFields() {
        for (Field f : WaterByLetters.class.getDeclaredFields()) {
            check(!Modifier.isStatic(f.getModifiers()) || Modifier.isFinal(f.getModifiers()), f + " is not final");
        }
        int fields = 0;
        for (Field f : WaterByLetters.class.getDeclaredFields()) {
            fields += Modifier.isStatic(f.getModifiers()) ? 0 : 1;
        }
        check(fields <= 20, fields + " fields");
    }

    private static void source() throws IOException {
        String all = Files.readString(SOURCE);
        String code = all.replaceAll("(?s)/\\*.*?\\*/", "").replaceAll("//[^\n]*", "");
        String[] ruledOut = {"->", "::", "\\btry\\b", "\\bcatch\\b", "\\bfinally\\b", "\\bassert\\b", "\\bsynchronized\\b",
            "\\binstanceof\\b", "\\bdouble\\b", "\\bfloat\\b", "static\\s*\\{", "Exact\\(", "System\\.(?!arraycopy)",
            "\\bvar\\b", "\\brecord\\b", "\\bObject\\b", "\\bThread\\b", "\\bRandom\\b", "while\\s*\\(true", "[^\\x00-\\x7f]"};
        for (String s : ruledOut) {
            Matcher m = Pattern.compile(s).matcher(code);
            check(!m.find(), "the code holds what is ruled out: " + s);
        }
        Matcher imports = Pattern.compile("import ([^;]*);").matcher(code);
        while (imports.find()) {
            check(imports.group(1).equals("java.util.Arrays") || imports.group(1).equals("java.util.NoSuchElementException"),
                    "the code takes in " + imports.group(1));
        }
        lengths(all.split("\n"));
    }

    /** A method begins at a line that ends in { and is set in by 4 or 8, and ends where that is closed. */
    private static void lengths(String[] lines) {
        for (int i = 0; i < lines.length; i++) {
            Matcher m = Pattern.compile("( {4}| {8})[^ /].*\\) (throws \\w+ )?\\{").matcher(lines[i]);
            if (m.matches()) {
                int end = i;
                while (end < lines.length && !lines[end].equals(m.group(1) + "}")) {
                    end++;
                }
                check(end - i < 60, "a long method: " + lines[i]);
            }
            check(lines[i].length() <= 120, "a long line: " + lines[i]);
        }
    }
}
