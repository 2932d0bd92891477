import java.lang.reflect.Constructor;
import java.lang.reflect.Field;
import java.lang.reflect.Method;
import java.lang.reflect.Modifier;
import java.nio.file.Files;
import java.nio.file.Path;
import java.util.ArrayList;
import java.util.Arrays;
import java.util.Collections;
import java.util.List;
import java.util.regex.Matcher;
import java.util.regex.Pattern;

/** The public face, and the rules of the language that can be seen in the source's words. */
public final class FaceTest {
    private static final Checks CHECKS = new Checks("FaceTest");
    private static final String[] METHODS = {
        "int back()", "int cell(int,int,int)", "int copy(int,int,int,int,int)", "int count(int)", "int feed(int,long)",
        "int find(int,int)", "int force(int)", "int hand(int,int,int)", "int image()", "int make(int,int,int,int,int)",
        "int most(int,int,int,int,int)", "int set(int,int,int)", "int sheet(int,int,int)", "int shown(int,int,int,int)",
        "int stall(int,int,int,int)", "int taken(int,int)", "int test(int,int)", "int text()", "int told(int,int)",
        "int tried(int,int,int,int)", "int tries(int,int,int,int)", "int tryTold(int,int)", "int walk(int,int,int)",
        "int wins(int,int,int)", "int year(int,int)", "long best(int,int,int)", "long leaves(int,int)",
        "long odds(int,int,int,int)", "long player(int,int,int,int,int)", "long says(int,int,int,int,int)",
        "long setAll(int,int,int)", "long worth(int,int,int,int,int)",
    };

    public static void main(String[] args) throws Exception {
        face();
        inside();
        words();
        CHECKS.end();
    }

    private static void face() {
        CHECKS.holds("public and final", Modifier.toString(ThreeBalls.class.getModifiers()).equals("public final"));
        List<String> methods = new ArrayList<>();
        List<String> hidden = new ArrayList<>();
        for (Method m : ThreeBalls.class.getDeclaredMethods()) {
            if (Modifier.isPrivate(m.getModifiers())) {
                hidden.add(m.getName());
            } else {
                String[] types = Arrays.stream(m.getParameterTypes()).map(Class::getName).toArray(String[]::new);
                methods.add(m.getReturnType() + " " + m.getName() + "(" + String.join(",", types) + ")");
            }
        }
        Collections.sort(methods);
        CHECKS.holds("the methods of the face and no others: " + methods, methods.equals(Arrays.asList(METHODS)));
        for (String face : METHODS) {
            String name = face.substring(face.indexOf(' ') + 1, face.indexOf('('));
            CHECKS.holds("no private method is called " + name, !hidden.contains(name));
            for (Class<?> inside : ThreeBalls.class.getDeclaredClasses()) {
                for (Method m : inside.getDeclaredMethods()) {
                    CHECKS.holds(inside.getName() + " has no method " + name, !m.getName().equals(name));
                }
            }
        }
        List<String> constants = new ArrayList<>();
        for (Field f : ThreeBalls.class.getDeclaredFields()) {
            if (!Modifier.isPrivate(f.getModifiers())) {
                constants.add(f.getName());
                CHECKS.holds(f + " is a constant", Modifier.toString(f.getModifiers()).equals("public static final"));
            }
        }
        Collections.sort(constants);
        CHECKS.holds("the constants", constants.equals(Arrays.asList("BAD", "FULL", "NO", "NONE", "STATE")));
        Constructor<?>[] constructors = ThreeBalls.class.getDeclaredConstructors();
        CHECKS.holds("one public constructor", constructors.length == 1
            && Modifier.isPublic(constructors[0].getModifiers()) && constructors[0].getParameterCount() == 0);
        for (Class<?> inside : ThreeBalls.class.getDeclaredClasses()) {
            CHECKS.holds(inside + " is static and private", Modifier.isStatic(inside.getModifiers())
                && Modifier.isPrivate(inside.getModifiers()));
        }
        CHECKS.holds("some twelve classes", ThreeBalls.class.getDeclaredClasses().length <= 12);
    }

    /** Rules 5 and 11: what is static is constant; few parameters, fields and lines. */
    private static void inside() throws Exception {
        List<Class<?>> all = new ArrayList<>(Arrays.asList(ThreeBalls.class.getDeclaredClasses()));
        all.add(ThreeBalls.class);
        for (Class<?> c : all) {
            int fields = 0;
            for (Field f : c.getDeclaredFields()) {
                boolean isStatic = Modifier.isStatic(f.getModifiers());
                CHECKS.holds(f + " is final if it is static", !isStatic || Modifier.isFinal(f.getModifiers()));
                fields += isStatic ? 0 : 1;
            }
            CHECKS.holds(c + " has some twenty fields: " + fields, fields <= 20);
            for (Method m : c.getDeclaredMethods()) {
                CHECKS.holds(m + " takes at most seven", m.getParameterCount() <= 7);
            }
        }
        String unit = null;
        int lines = 0;
        for (String line : Files.readAllLines(Path.of("src/main/java/ThreeBalls.java"))) {
            if (unit == null && line.endsWith(") {") && line.matches("( {4}| {8})[a-zA-Z].*") && !line.matches(" *(if|for|while|switch|else).*")) {
                unit = line;
                lines = 0;
            }
            lines++;
            if (unit != null && line.equals(unit.substring(0, unit.length() - unit.trim().length()) + "}")) {
                CHECKS.holds(unit.trim() + " is short: " + lines, lines <= 60);
                unit = null;
            }
        }
    }

    private static void words() throws Exception {
        String source = Files.readString(Path.of("src/main/java/ThreeBalls.java"))
            .replaceAll("(?s)/\\*.*?\\*/", " ").replaceAll("//[^\n]*", " ");
        String[] ruledOut = {
            "throw", "throws", "try", "catch", "finally", "synchronized", "assert", "package", "protected", "volatile",
            "hashCode", "toString", "equals", "Exact", "Random", "System.nanoTime", "currentTimeMillis", "Object", "->", "::",
        };
        for (String word : ruledOut) {
            Matcher found = Pattern.compile("(?<![A-Za-z])" + Pattern.quote(word) + "(?![A-Za-z])").matcher(source);
            CHECKS.holds("the source is without " + word, !found.find());
        }
        CHECKS.holds("plain signs alone", source.chars().allMatch(c -> c == '\n' || c >= 32 && c < 127));
        CHECKS.holds("no package line", !source.startsWith("package"));
        Matcher imports = Pattern.compile("import ([^;]*);").matcher(source);
        while (imports.find()) {
            CHECKS.holds("import " + imports.group(1),
                Arrays.asList("java.util.ArrayList", "java.util.Arrays").contains(imports.group(1)));
        }
    }
}
