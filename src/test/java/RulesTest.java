import java.io.IOException;
import java.lang.reflect.Constructor;
import java.lang.reflect.Field;
import java.lang.reflect.Method;
import java.lang.reflect.Modifier;
import java.nio.file.Files;
import java.nio.file.Path;
import java.util.ArrayList;
import java.util.List;
import java.util.Set;
import java.util.TreeSet;
import java.util.regex.Matcher;
import java.util.regex.Pattern;

/** The rules of ../shared/LANGUAGE.md that can be looked up in the text or in the compiled class. */
public final class RulesTest {
    private static final Path SOURCE = Path.of("src/main/java/RowFirst.java");

    private static final List<String> FACE = List.of(
        "int feed(int)", "int stall()", "int day(int)", "int told(int)", "int sign(int)", "int row()",
        "int of(int,int)", "int player(int,int)", "int own(int)", "long waits(int,int)",
        "long odds(int,int,int)", "long lasts(int,int,int)", "long half(int,int,int)",
        "long worth(int,int,int)", "int best(int,int,int)", "int ring(int,int,int)",
        "int pick(int,int,int)", "int fair(int,int)", "long within(int,int,int)",
        "long often(int,int,int)", "long free(int)", "int toss(int)", "int came(int)", "int ends(int)",
        "int ahead()", "int act(int,int,int)", "int trace(int)", "int as(int,int)", "int image()",
        "int undo()", "int count(int)");

    private static final String[] RULED_OUT = {
        "throw", "throws", "try", "catch", "finally", "synchronized", "assert", "import", "package",
        "volatile", "native", "transient", "->", "::", "instanceof", "System.", "Thread", "Random",
        "Exact", "hashCode", "toString", ".equals", "var ", "Object", "yield", "while (true)", "for (;;)",
        "static {", "@",
    };

    private static final Check CHECK = new Check();

    public static void main(String[] args) throws IOException {
        String source = Files.readString(SOURCE);
        String code = source.replaceAll("(?s)/\\*.*?\\*/", "").replaceAll("//[^\n]*", "");
        face();
        ruledOut(code.replaceAll("\"[^\"\n]*\"", "\"\"").replaceAll("'[^'\n]*'", "' '"));
        classes();
        lengths(code);
        CHECK.part("rule 3");
        CHECK.holds("all characters are 1 to 127", source.chars().allMatch(c -> c > 0 && c < 128));
        CHECK.finish();
    }

    private static void face() {
        CHECK.part("rule 1");
        CHECK.holds("the class is public and final",
            RowFirst.class.getModifiers() == (Modifier.PUBLIC | Modifier.FINAL));
        Set<String> found = new TreeSet<>();
        Set<String> names = new TreeSet<>();
        for (Method method : RowFirst.class.getDeclaredMethods()) {
            if (method.getModifiers() == Modifier.PUBLIC) {
                found.add(told(method));
                names.add(method.getName());
            } else {
                CHECK.holds(method + " is private", Modifier.isPrivate(method.getModifiers()));
            }
        }
        CHECK.holds("the public methods are the document's: " + found, found.equals(new TreeSet<>(FACE)));
        for (Class<?> one : everyClass()) {
            for (Method method : one.getDeclaredMethods()) {
                CHECK.holds(method + " bears no public one's name",
                    Modifier.isPublic(method.getModifiers()) || !names.contains(method.getName()));
            }
        }
        for (Constructor<?> constructor : RowFirst.class.getDeclaredConstructors()) {
            CHECK.holds("the constructor", constructor.getModifiers() == Modifier.PUBLIC
                && constructor.getParameterCount() == 0);
        }
        Set<String> constants = new TreeSet<>();
        for (Field field : RowFirst.class.getDeclaredFields()) {
            if (Modifier.isPublic(field.getModifiers())) {
                constants.add(field.getType() + " " + field.getName());
            } else {
                CHECK.holds(field + " is private", Modifier.isPrivate(field.getModifiers()));
            }
        }
        CHECK.holds("the public constants are the document's: " + constants,
            constants.equals(Set.of("int NONE", "int BAD", "int STATE", "int FULL", "long NO")));
    }

    private static String told(Method method) {
        List<String> types = new ArrayList<>();
        for (Class<?> type : method.getParameterTypes()) {
            types.add(type.getName());
        }
        return method.getReturnType() + " " + method.getName() + "(" + String.join(",", types) + ")";
    }

    private static List<Class<?>> everyClass() {
        List<Class<?>> all = new ArrayList<>(List.of(RowFirst.class.getDeclaredClasses()));
        all.add(RowFirst.class);
        return all;
    }

    private static void ruledOut(String code) {
        CHECK.part("rules 2, 4, 5, 6, 13");
        for (String word : RULED_OUT) {
            String pattern = (Character.isLetter(word.charAt(0)) ? "\\b" : "") + Pattern.quote(word)
                + (Character.isLetter(word.charAt(word.length() - 1)) ? "\\b" : "");
            CHECK.holds("no " + word, !Pattern.compile(pattern).matcher(code).find());
        }
    }

    private static void classes() {
        CHECK.part("rules 2, 5, 11");
        CHECK.holds("at most twelve classes", everyClass().size() <= 12);
        for (Class<?> one : everyClass()) {
            int fields = 0;
            for (Field field : one.getDeclaredFields()) {
                boolean fixed = Modifier.isStatic(field.getModifiers());
                fields += fixed ? 0 : 1;
                CHECK.holds(field + " is final, being static", !fixed || Modifier.isFinal(field.getModifiers()));
            }
            CHECK.holds(one + " has at most twenty fields", fields <= 20);
            if (one != RowFirst.class) {
                CHECK.holds(one + " is static", Modifier.isStatic(one.getModifiers()));
                CHECK.holds(one + " is not public", !Modifier.isPublic(one.getModifiers()));
            }
            for (Method method : one.getDeclaredMethods()) {
                CHECK.holds(method + " takes at most seven", method.getParameterCount() <= 7);
            }
        }
    }

    private static void lengths(String code) {
        CHECK.part("rule 11");
        Matcher bodies = Pattern.compile("(?m)^( +)[a-z][^=;{}\n]*\\([^=;{}]*\\) \\{\n((?s).*?)^\\1\\}").matcher(code);
        int found = 0;
        while (bodies.find()) {
            found++;
            long lines = bodies.group(2).lines().count();
            CHECK.holds("at most 60 lines: " + bodies.group().lines().findFirst().get(), lines <= 60);
        }
        CHECK.holds("methods are found: " + found, found > 60);
    }
}
