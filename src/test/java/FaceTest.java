import java.io.IOException;
import java.lang.reflect.Constructor;
import java.lang.reflect.Field;
import java.lang.reflect.Method;
import java.lang.reflect.Modifier;
import java.nio.file.Files;
import java.nio.file.Path;
import java.util.ArrayList;
import java.util.List;
import java.util.Set;
import java.util.TreeSet;
import java.util.regex.Matcher;
import java.util.regex.Pattern;

/** The public face, and those rules of LANGUAGE.md that can be seen from the class and its text. */
public final class FaceTest {
    private static final Set<String> METHODS = Set.of("row 3", "set 3", "copy 5", "drop 1", "feed 1", "pass 0",
            "fault 0", "setUp 3", "take 1", "turn 1", "gust 2", "hours 1", "undo 0", "cell 2", "wind 2", "felt 2",
            "lost 1", "leaves 2", "breaks 1", "stands 2", "walls 3", "hidden 4", "most 2", "lots 4", "image 1",
            "restore 1", "kind 1", "as 2", "ask 2", "trace 1", "count 1", "status 0");
    private static final String[] RULED_OUT = {"throw", "try", "catch", "finally", "throws", "synchronized", "assert",
        "import", "package", "native", "volatile", "transient", "var", "equals", "hashCode", "toString", "System\\.out",
        "Exact", "->", "::", "@"};

    public static void main(String[] args) throws IOException {
        constants();
        members();
        classesInside();
        text(Files.readString(Path.of(System.getProperty("windcarver.source"))));
        Check.end();
    }

    private static void constants() {
        Check.due("NONE", WindCarver.NONE, -1000000);
        Check.due("BAD", WindCarver.BAD, -1000001);
        Check.due("STATE", WindCarver.STATE, -1000002);
        Check.due("FULL", WindCarver.FULL, -1000003);
    }

    private static void members() {
        Check.due("rule 1: public and final", WindCarver.class.getModifiers(), Modifier.PUBLIC | Modifier.FINAL);
        Set<String> methods = new TreeSet<>();
        Set<String> hidden = new TreeSet<>();
        for (Method method : WindCarver.class.getDeclaredMethods()) {
            if (Modifier.isPrivate(method.getModifiers())) {
                hidden.add(method.getName());
            } else {
                methods.add(method.getName() + " " + method.getParameterCount());
                Check.due("the face: " + method, method.getModifiers(), Modifier.PUBLIC);
                Check.due("the face: " + method, method.getReturnType(), int.class);
            }
            Check.due("rule 11: parameters of " + method, method.getParameterCount() <= 7, true);
        }
        Check.due("rule 1: methods", methods, new TreeSet<>(METHODS));
        for (String method : METHODS) {
            String name = method.substring(0, method.indexOf(' '));
            Check.due("rule 1: a private " + name, hidden.contains(name), false);
        }
        Set<String> fields = new TreeSet<>();
        for (Field field : WindCarver.class.getDeclaredFields()) {
            if (!Modifier.isPrivate(field.getModifiers())) {
                fields.add(field.getName());
            }
        }
        Check.due("rule 1: constants", fields, new TreeSet<>(Set.of("NONE", "BAD", "STATE", "FULL")));
        Constructor<?>[] constructors = WindCarver.class.getDeclaredConstructors();
        Check.due("rule 1: constructors", constructors.length, 1);
        Check.due("rule 1: constructor", constructors[0].getModifiers(), Modifier.PUBLIC);
    }

    private static void classesInside() {
        Class<?>[] inside = WindCarver.class.getDeclaredClasses();
        Check.due("rule 11: classes", inside.length <= 11, true);
        for (Class<?> one : inside) {
            Check.due("rule 2: " + one + " is static", Modifier.isStatic(one.getModifiers()), true);
            fewFields(one);
        }
        fewFields(WindCarver.class);
    }

    private static void fewFields(Class<?> one) {
        int fields = 0;
        for (Field field : one.getDeclaredFields()) {
            if (Modifier.isStatic(field.getModifiers())) {
                Check.due("rule 5: " + field + " is final", Modifier.isFinal(field.getModifiers()), true);
            } else {
                fields++;
            }
        }
        Check.due("rule 11: fields of " + one, fields <= 20, true);
    }

    private static void text(String source) {
        String code = source.replaceAll("(?s)/\\*.*?\\*/", "").replaceAll("//[^\n]*", "").replaceAll("'.'", "0");
        for (String word : RULED_OUT) {
            String bounded = word.matches("\\w+") ? "\\b" + word + "\\b" : word;
            Matcher found = Pattern.compile(bounded).matcher(code);
            Check.due("rules 2 to 6: " + word, found.find(), false);
        }
        List<String> made = new ArrayList<>();
        Matcher creations = Pattern.compile("\\bnew (\\w+)").matcher(code);
        while (creations.find()) {
            made.add(creations.group(1));
        }
        made.removeAll(List.of("int", "Row", "Text", "Pass", "Air", "Acts", "Asked"));
        Check.due("rule 4: what else is made", made, List.of());
        shortMethods(code.split("\n"));
    }

    private static void shortMethods(String[] lines) {
        int begin = -1;
        for (int i = 0; i < lines.length; i++) {
            if (lines[i].matches(" {4}( {4})?[a-zA-Z].*\\) \\{") ) {
                begin = i;
            } else if (begin >= 0 && lines[i].matches(" {4}( {4})?\\}")) {
                Check.due("rule 11: lines of " + lines[begin].trim(), i - begin <= 60, true);
                begin = -1;
            }
        }
    }
}
