import java.lang.reflect.Constructor;
import java.lang.reflect.Field;
import java.lang.reflect.Method;
import java.lang.reflect.Modifier;
import java.nio.file.Files;
import java.nio.file.Path;
import java.util.Arrays;
import java.util.List;
import java.util.TreeSet;
import java.util.regex.Matcher;
import java.util.regex.Pattern;

/** The public face, and those rules of LANGUAGE.md that can be seen from the text. */
public final class LanguageTest {
    private static final String[] FACE = {
        "int point(int,int)", "int back()", "int hold(int,int)", "int load(int,int,int)", "int bar(int)",
        "int all()", "int read(int)", "int info(int,int)", "int pair(int,int)", "long least(int)",
        "int fault()", "int frame()", "long pull(int,int)", "long without(int,int)", "int why(int)",
        "int needed()", "int dearest()", "long gain(int,int)", "int grow()", "int prune()",
        "long would(int,int,int,int)", "int shift(int,int,int)", "long stretch(int,int)", "long work(int)",
        "int proves()", "int cross(int,int)", "int sheet(int,int,int)", "int lose(int)",
        "int put(int,int,int,int)", "long get(int,int)", "int copy(int,int,int,int,int)", "int write(int)",
        "int count(int)", "long digest()"};
    private static final String[] WORDS = {
        "throw", "throws", "try", "catch", "finally", "synchronized", "assert", "import", "package", "native",
        "volatile", "transient", "double", "float", "protected", "MIN_VALUE", "MAX_VALUE", "System.out", "record",
        "hashCode", "toString", "equals"};

    public static void main(String[] args) throws Exception {
        face();
        String text = Files.readString(Path.of("src/main/java/LeastFrames.java"));
        String code = text.replaceAll("(?s)/\\*.*?\\*/", " ").replaceAll("//[^\n]*", " ");
        words(code);
        names(code);
        lengths(code);
        for (char c : text.toCharArray()) {
            if (c > 126) {
                Due.due("rule 3: a sign beyond 126", c, 0);
            }
        }
        Due.end();
    }

    private static void face() {
        TreeSet<String> seen = new TreeSet<>();
        for (Method m : LeastFrames.class.getDeclaredMethods()) {
            if (!Modifier.isPrivate(m.getModifiers())) {
                StringBuilder b = new StringBuilder(m.getReturnType() + " " + m.getName() + "(");
                b.append(String.join(",", Arrays.stream(m.getParameterTypes()).map(Class::getName).toList()));
                seen.add(b.append(")").toString());
                Due.due("rule 1: public alone " + m, m.getModifiers(), Modifier.PUBLIC);
            }
        }
        Due.due("rule 1: methods " + seen, seen.equals(new TreeSet<>(List.of(FACE))) ? 1 : 0, 1);
        TreeSet<String> fields = new TreeSet<>();
        for (Field f : LeastFrames.class.getDeclaredFields()) {
            if (!Modifier.isPrivate(f.getModifiers())) {
                fields.add(f.getName());
            }
        }
        Due.due("rule 1: constants", fields.toString().equals("[BAD, FULL, NONE, NOT]") ? 1 : 0, 1);
        Constructor<?>[] made = LeastFrames.class.getDeclaredConstructors();
        Due.due("rule 1: constructors", made.length * 10 + made[0].getParameterCount(), 10);
        Due.due("rule 1: public and final", LeastFrames.class.getModifiers(), Modifier.PUBLIC | Modifier.FINAL);
        Due.due("NONE", LeastFrames.NONE, -1);
        Due.due("BAD", LeastFrames.BAD, -2);
        Due.due("NOT", LeastFrames.NOT, -3);
        Due.due("FULL", LeastFrames.FULL, -4);
        for (Class<?> c : LeastFrames.class.getDeclaredClasses()) {
            Due.due("rule 2: static " + c, Modifier.isStatic(c.getModifiers()) ? 1 : 0, 1);
            Due.due("rule 11: fields of " + c, instanceFields(c) <= 20 ? 1 : 0, 1);
        }
        Due.due("rule 11: fields", instanceFields(LeastFrames.class) <= 20 ? 1 : 0, 1);
        Due.due("rule 11: classes", LeastFrames.class.getDeclaredClasses().length < 12 ? 1 : 0, 1);
    }

    private static long instanceFields(Class<?> c) {
        return Arrays.stream(c.getDeclaredFields()).filter(f -> !Modifier.isStatic(f.getModifiers())).count();
    }

    private static void words(String code) {
        for (String word : WORDS) {
            boolean there = Pattern.compile("\\b" + Pattern.quote(word) + "\\b").matcher(code).find();
            Due.due("no word " + word, there ? 1 : 0, 0);
        }
        Due.due("no lambda", code.contains("->") || code.contains("::") ? 1 : 0, 0);
        Matcher library = Pattern.compile("\\b(Math|Integer|Long|System|Arrays)\\.(\\w+)").matcher(code);
        List<String> allowed = List.of("Math.abs", "Math.min", "Integer.bitCount", "System.arraycopy");
        while (library.find()) {
            Due.due("rule 4: " + library.group(), allowed.contains(library.group()) ? 1 : 0, 1);
        }
    }

    /** No method of the classes inside bears a name of the face, either. */
    private static void names(String code) {
        for (String told : FACE) {
            String name = told.substring(told.indexOf(' ') + 1, told.indexOf('('));
            Matcher m = Pattern.compile("\\b(int|long|boolean|void)\\s+" + name + "\\s*\\(").matcher(code);
            int times = 0;
            while (m.find()) {
                times++;
            }
            Due.due("rule 1: methods named " + name, times, 1);
        }
    }

    private static void lengths(String code) {
        int longest = 0;
        int start = -1;
        String[] lines = code.split("\n", -1);
        Pattern head = Pattern.compile("^( {4}| {8})(public|private|int|long|boolean|void|static)\\b.*\\) \\{$");
        for (int i = 0; i < lines.length; i++) {
            if (head.matcher(lines[i]).find() && !lines[i].contains(" class ")) {
                start = i;
            }
            if (start >= 0 && lines[i].matches("^ {4}( {4})?\\}$") && indent(lines[i]) == indent(lines[start])) {
                longest = Math.max(longest, i - start + 1);
                start = -1;
            }
        }
        Due.due("rule 11: short methods", longest > 10 && longest <= 60 ? 1 : 0, 1);
    }

    private static int indent(String line) {
        return line.length() - line.stripLeading().length();
    }
}
