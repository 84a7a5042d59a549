import java.lang.reflect.InvocationTargetException;
import java.lang.reflect.Method;
import java.util.ArrayList;
import java.util.List;
import java.util.Map;

/**
 * Runs of calls on new objects, told as texts: "gust 0 5 = 10" calls gust(0, 5), of which 10 is due;
 * "text a1;" feeds each byte of a1; and "read a1; = 3" feeds them and calls pass(), of which 3 is due.
 * In a text _ is a blank. A due may be a name: NONE, BAD, STATE, FULL, or that of a FINDING.
 */
final class Check {
    private static final Map<String, Integer> NAMES = Map.of(
            "NONE", -1000000, "BAD", -1000001, "STATE", -1000002, "FULL", -1000003,
            "NULL", -1000011, "PLACE", -1000012, "KIND", -1000013, "SIZE", -1000014, "STORE", -1000015);
    private static int calls = 0;
    private static int wrong = 0;

    private Check() {
    }

    static void run(String promise, String... lines) {
        WindCarver x = new WindCarver();
        for (String line : lines) {
            try {
                step(x, promise, line);
            } catch (ReflectiveOperationException e) {
                due(promise + ": " + line, e.toString(), "an answer");
            }
        }
    }

    static void due(String what, Object got, Object want) {
        calls++;
        if (!want.equals(got)) {
            wrong++;
            System.out.println(what + " answered " + got + ", due is " + want);
        }
    }

    /** Ends the test, with exit code 1 if an answer was not as due. */
    static void end() {
        System.out.println(wrong == 0 ? calls + " answers are as due" : wrong + " answers are not as due");
        if (wrong != 0) {
            System.exit(1);
        }
    }

    static int call(WindCarver x, String name, List<Integer> arguments) throws ReflectiveOperationException {
        for (Method method : WindCarver.class.getMethods()) {
            if (method.getName().equals(name) && method.getDeclaringClass() == WindCarver.class) {
                return (Integer) method.invoke(x, arguments.toArray());
            }
        }
        throw new NoSuchMethodException(name);
    }

    private static void step(WindCarver x, String promise, String line) throws ReflectiveOperationException {
        String[] sides = line.split(" = ");
        String[] words = sides[0].split(" ");
        if (words[0].equals("text") || words[0].equals("read")) {
            String text = words.length > 1 ? words[1] : "";
            for (char letter : text.toCharArray()) {
                x.feed(letter == '_' ? ' ' : letter);
            }
            if (words[0].equals("text")) {
                return;
            }
            words = new String[] {"pass"};
        }
        List<Integer> arguments = new ArrayList<>();
        for (int i = 1; i < words.length; i++) {
            arguments.add(Integer.valueOf(words[i]));
        }
        int want = NAMES.containsKey(sides[1]) ? NAMES.get(sides[1]) : Integer.parseInt(sides[1]);
        try {
            due(promise + ": " + line, call(x, words[0], arguments), want);
        } catch (InvocationTargetException e) {
            due(promise + ": " + line, e.getCause().toString(), want);
        }
    }
}
