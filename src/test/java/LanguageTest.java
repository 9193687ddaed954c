import java.io.IOException;
import java.lang.reflect.Constructor;
import java.lang.reflect.Field;
import java.lang.reflect.Method;
import java.lang.reflect.Modifier;
import java.nio.charset.StandardCharsets;
import java.nio.file.Files;
import java.nio.file.Path;
import java.util.Arrays;
import java.util.Set;
import java.util.TreeSet;
import java.util.regex.Matcher;
import java.util.regex.Pattern;

/** The rules of LANGUAGE.md that can be seen from the source and from the face. Runs in the project's root. */
public final class LanguageTest {
    private static final String[] FACE = {"int type(int)", "int wipe()", "int fault()", "int chapter(int,int)",
        "int pace(int,int,int)", "int read(int,int)", "int like(int,int,int)", "int skip(int,int)",
        "int reader(int,int,int)", "int set(int,int)", "int time(int,int)", "int evening(int,int,int)",
        "int waited(int,int,int,int)", "int best(int,int,int)", "int how(int,int,int)", "int gain(int,int,int,int)",
        "int rests(int,int,int)", "int pairs(int,int)", "int turn(int,int,int)", "int forget()", "int paces(int,int)",
        "int unlike()", "long done(int,int,int)", "long mean(int,int)", "int sheet(int,int,int)", "int lose(int)",
        "int lay(int,int,int,int)", "int get(int,int,int)", "int copy(int,int,int,int,int)", "int write(int,int)",
        "int count(int)", "long digest()"};
    private static final String[] FORBIDDEN = {"\\bthrow\\b", "\\bthrows\\b", "\\btry\\b", "\\bcatch\\b",
        "\\bsynchronized\\b", "\\bassert\\b", "\\bimport\\b", "\\bpackage\\b", "->", "::", "Exact\\b",
        "\\bSystem\\.(?!arraycopy\\b)", "\\bObject\\b", "\\bThread\\b", "\\bhashCode\\b", "\\btoString\\b",
        "\\bMath\\.(?!max\\b|min\\b|abs\\b)", "\\bInteger\\.(?!bitCount\\b|MIN_VALUE\\b)",
        "\\bLong\\.(?!MIN_VALUE\\b)", "\\bprotected\\b"};
    private static final int LONGEST_METHOD = 60;
    private static final int MOST_CLASSES = 12;
    private static final int MOST_FIELDS = 20;
    private static final int MOST_PARAMETERS = 7;

    private static int wrong = 0;

    public static void main(String[] args) throws IOException {
        String source = Files.readString(Path.of("src/main/java/OneBook.java"), StandardCharsets.ISO_8859_1);
        lookAtSource(source);
        lookAtFace();
        Class<?>[] inside = OneBook.class.getDeclaredClasses();
        check(inside.length + 1 <= MOST_CLASSES, "too many classes");
        lookAtClass(OneBook.class);
        for (Class<?> c : inside) {
            check(Modifier.isStatic(c.getModifiers()) && Modifier.isPrivate(c.getModifiers()), c + " is not private static");
            lookAtClass(c);
        }
        System.out.println(wrong == 0 ? "the language's rules are kept" : wrong + " rules are broken");
        if (wrong != 0) {
            System.exit(1);
        }
    }

    private static void check(boolean well, String what) {
        if (!well) {
            wrong++;
            System.out.println(what);
        }
    }

    private static void lookAtSource(String source) {
        check(source.chars().allMatch(c -> c == '\n' || c >= 32 && c < 127), "a sign outside of plain text");
        String code = source.replaceAll("(?s)/\\*.*?\\*/", "").replaceAll("//[^\n]*", "");
        for (String word : FORBIDDEN) {
            Matcher found = Pattern.compile(word).matcher(code);
            check(!found.find(), "the source has what " + word + " finds");
        }
        lookAtLengths(source.split("\n"));
    }

    /** A method ends with the brace that stands as far in as the line that it begins with. */
    private static void lookAtLengths(String[] lines) {
        for (int i = 0; i < lines.length; i++) {
            if (lines[i].matches(" +[a-zA-Z].*\\) \\{") && !lines[i].matches(" +(if|for|while|switch|do)\\b.*")) {
                String end = lines[i].replaceAll("[^ ].*", "") + "}";
                int j = i;
                while (j < lines.length && !lines[j].equals(end)) {
                    j++;
                }
                check(j - i < LONGEST_METHOD, "a long method: " + lines[i].trim());
            }
        }
    }

    private static void lookAtFace() {
        Set<String> face = new TreeSet<>();
        for (Method m : OneBook.class.getDeclaredMethods()) {
            if (!Modifier.isPrivate(m.getModifiers())) {
                check(Modifier.isPublic(m.getModifiers()) && !Modifier.isStatic(m.getModifiers()), m + " is not of the face");
                String types = Arrays.toString(m.getParameterTypes()).replaceAll("[\\[\\] ]", "");
                face.add(m.getReturnType() + " " + m.getName() + "(" + types + ")");
            }
        }
        check(face.equals(new TreeSet<>(Arrays.asList(FACE))), "the face is " + face);
        Constructor<?>[] made = OneBook.class.getDeclaredConstructors();
        check(made.length == 1 && made[0].getParameterCount() == 0 && Modifier.isPublic(made[0].getModifiers()), "constructors");
        check(Modifier.isFinal(OneBook.class.getModifiers()) && Modifier.isPublic(OneBook.class.getModifiers()), "the class");
        Set<String> constants = new TreeSet<>();
        for (Field f : OneBook.class.getDeclaredFields()) {
            if (!Modifier.isPrivate(f.getModifiers())) {
                constants.add(f.getName());
            }
        }
        check(constants.equals(Set.of("NONE", "BAD", "NOT", "FULL")), "constants are " + constants);
        check(OneBook.NONE == -1 && OneBook.BAD == -2 && OneBook.NOT == -3 && OneBook.FULL == -4, "the constants' values");
    }

    private static void lookAtClass(Class<?> c) {
        Set<String> names = new TreeSet<>();
        for (String call : FACE) {
            names.add(call.replaceAll(".* |\\(.*", ""));
        }
        for (Method m : c.getDeclaredMethods()) {
            check(m.getParameterCount() <= MOST_PARAMETERS, m + " has too many parameters");
            boolean ofFace = c == OneBook.class && Modifier.isPublic(m.getModifiers());
            check(ofFace || !names.contains(m.getName()), m + " bears a name of the face");
        }
        int fields = 0;
        for (Field f : c.getDeclaredFields()) {
            if (Modifier.isStatic(f.getModifiers())) {
                check(Modifier.isFinal(f.getModifiers()) && f.getType().isPrimitive(), f + " is static, but no constant");
            } else {
                fields++;
            }
        }
        check(fields <= MOST_FIELDS, c + " has too many fields");
    }
}
