import java.lang.reflect.Constructor;
import java.lang.reflect.Field;
import java.lang.reflect.Method;
import java.lang.reflect.Modifier;
import java.nio.charset.StandardCharsets;
import java.nio.file.Files;
import java.nio.file.Path;
import java.util.ArrayList;
import java.util.Collections;
import java.util.List;
import java.util.regex.Matcher;
import java.util.regex.Pattern;

/** The face of the document, and those rules of LANGUAGE.md that can be seen from the source and the class. */
public final class LanguageRules {
    private static final String[] FACE = {
        "jug 4", "told 2", "as 2", "turns 2", "set 3", "gives 2", "heart 2", "hand 2", "frost 1", "deal 1", "seed 1",
        "days 1", "town 1", "measure 3", "behind 2", "enough 2", "heir 3", "hearts 3", "becomes 3", "like 2", "fee 0", "fine 1",
        "feed 3", "trim 1", "text 0", "textTold 2", "why 1", "sheet 3", "mark 3", "pour 1", "reads 1", "copy 5", "lay 3", "ask 2",
        "item 2", "rest 2", "tell 1", "check 1", "keep 0", "back 0", "count 1"};
    private static final String[] CONSTANTS = {"BAD", "NO", "FULL", "NONE", "NOTHING", "KIND", "INDEX", "SIZE"};
    private static final String[] FORBIDDEN = {
        "\\bthrow\\b", "\\btry\\b", "\\bcatch\\b", "\\bfinally\\b", "\\bsynchronized\\b", "\\bassert\\b", "\\bpackage\\b", "->", "::",
        "Exact\\b", "\\bNaN\\b", "\\bprotected\\b", "\\bvolatile\\b", "\\bnative\\b", "\\bThread\\b", "\\bRandom\\b",
        "\\bhashCode\\b", "\\btoString\\b", "\\bstatic \\{", "\\bSystem\\.(?!arraycopy\\b)", "\\bimport (?!java\\.util\\.(Arrays|ArrayList|List|Iterator);)",
        "\\bwhile \\(true\\)", "for \\(;", "\\bString\\.", "\\bCharacter\\b", "\\bObject\\b", "\\bvar\\b"};

    private static int wrong = 0;

    private static void refuse(boolean broken, String what) {
        if (broken) {
            wrong++;
            System.out.println(what);
        }
    }

    public static void main(String[] args) throws Exception {
        checkFace();
        checkInside(JugMemory.class);
        checkSource();
        System.out.println(wrong + " rules not kept");
        if (wrong != 0) {
            System.exit(1);
        }
    }

    private static void checkFace() throws Exception {
        Class<?> face = JugMemory.class;
        refuse(!Modifier.isPublic(face.getModifiers()) || !Modifier.isFinal(face.getModifiers()), "the class is not public and final");
        List<String> due = new ArrayList<>(List.of(FACE));
        List<String> names = new ArrayList<>();
        for (String f : FACE) {
            names.add(f.split(" ")[0]);
        }
        List<String> seen = new ArrayList<>();
        for (Method m : face.getDeclaredMethods()) {
            if (Modifier.isPrivate(m.getModifiers())) {
                refuse(names.contains(m.getName()), "a private method bears the name " + m.getName());
                continue;
            }
            seen.add(m.getName() + " " + m.getParameterCount());
            refuse(!Modifier.isPublic(m.getModifiers()) || Modifier.isStatic(m.getModifiers()), m + " is not of the face");
            refuse(m.getReturnType() != int.class, m + " does not answer an int");
            for (Class<?> p : m.getParameterTypes()) {
                refuse(p != int.class, m + " takes something else than ints");
            }
        }
        Collections.sort(due);
        Collections.sort(seen);
        refuse(!due.equals(seen), "the face is " + seen + ", due is " + due);
        Constructor<?>[] made = face.getDeclaredConstructors();
        refuse(made.length != 1 || made[0].getParameterCount() != 0 || !Modifier.isPublic(made[0].getModifiers()), "the constructor is not as due");
        List<String> constants = new ArrayList<>();
        for (Field f : face.getDeclaredFields()) {
            if (!Modifier.isPrivate(f.getModifiers())) {
                constants.add(f.getName());
                int m = f.getModifiers();
                refuse(!Modifier.isPublic(m) || !Modifier.isStatic(m) || !Modifier.isFinal(m) || f.getType() != int.class, f + " is no constant");
            }
        }
        refuse(!constants.equals(List.of(CONSTANTS)), "the constants are " + constants);
    }

    private static void checkInside(Class<?> face) {
        Class<?>[] inside = face.getDeclaredClasses();
        refuse(inside.length > 11, "more than twelve classes");
        for (Class<?> c : inside) {
            refuse(!Modifier.isStatic(c.getModifiers()) || Modifier.isPublic(c.getModifiers()), c + " is not static, or public");
            for (Method m : c.getDeclaredMethods()) {
                refuse(m.getParameterCount() > 7, m + " takes more than seven");
                for (String f : FACE) {
                    refuse(m.getName().equals(f.split(" ")[0]), m + " bears a name of the face");
                }
            }
        }
        List<Class<?>> all = new ArrayList<>(List.of(inside));
        all.add(face);
        for (Class<?> c : all) {
            int fields = 0;
            for (Field f : c.getDeclaredFields()) {
                boolean isStatic = Modifier.isStatic(f.getModifiers());
                fields += isStatic ? 0 : 1;
                refuse(isStatic && !Modifier.isFinal(f.getModifiers()), f + " is static and not final");
            }
            refuse(fields > 20, c + " has more than twenty fields");
        }
    }

    private static void checkSource() throws Exception {
        String source = Files.readString(Path.of("src/main/java/JugMemory.java"), StandardCharsets.UTF_8);
        for (int i = 0; i < source.length(); i++) {
            refuse(source.charAt(i) > 126, "a sign above 126 at " + i);
        }
        String code = source.replaceAll("(?s)/\\*.*?\\*/", "").replaceAll("//[^\n]*", "");
        for (String f : FORBIDDEN) {
            Matcher m = Pattern.compile(f).matcher(code);
            refuse(m.find(), "the source has what " + f + " finds");
        }
        refuse(Pattern.compile("\"\\s*\\+|\\+\\s*\"").matcher(code).find(), "texts are joined by +");
        checkLengths(code);
    }

    /** Methods begin at a line that ends in ") {" with four or eight blanks ahead, and end at "}" with as many. */
    private static void checkLengths(String code) {
        String[] lines = code.split("\n");
        for (int i = 0; i < lines.length; i++) {
            Matcher m = Pattern.compile("( {4}| {8})\\w[^;=]*\\) \\{").matcher(lines[i]);
            if (m.matches() && !lines[i].trim().matches("(if|for|while|switch|else).*")) {
                int end = i;
                while (end < lines.length && !lines[end].equals(m.group(1) + "}")) {
                    end++;
                }
                refuse(end - i > 60, "a method of more than sixty lines: " + lines[i].trim());
            }
        }
    }
}
