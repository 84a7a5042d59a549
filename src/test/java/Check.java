import java.lang.reflect.InvocationTargetException;
import java.lang.reflect.Method;
import java.util.ArrayList;
import java.util.Arrays;
import java.util.List;
import java.util.Map;

/**
 * Runs of calls on new objects, told as texts: "gust 0 5 = 10" calls gust(0, 5), of which 10 is due;
 * "text a1;" feeds each byte of a1; and "read a1; = 3" feeds them and calls pass(), of which 3 is due.
 * In a text _ is a blank. A due may be a name: NONE, BAD, STATE, FULL, or that of a FINDING.
 * "item 2 0 5 = 9" looks whether ITEM 5 of ROW 2, which is of LANE 0, is 9 (0 to 31; no call tells it).
 */
final class Check {
    private static final Map<String, Integer> NAMES = Map.of(
            "NONE", -1000000, "BAD", -1000001, "STATE", -1000002, "FULL", -1000003,
            "NULL", -1000011, "PLACE", -1000012, "KIND", -1000013, "SIZE", -1000014, "STORE", -1000015);
    private static int calls = 0;
    private static int wrong = 0;

    private Check() {
    }

    static void run(String promise, String... lines) {
        WindCarver x = new WindCarver();
        for (String line : lines) {
            try {
                step(x, promise, line);
            } catch (ReflectiveOperationException e) {
                due(promise + ": " + line, e.toString(), "an answer");
            }
        }
    }

    /** A run for one sentence of the document; a part of it is a line, or several (see beyond, times). */
    static void edge(String promise, String sentence, Object... parts) {
        List<String> lines = new ArrayList<>();
        for (Object part : parts) {
            if (part instanceof String[] several) {
                lines.addAll(List.of(several));
            } else {
                lines.add((String) part);
            }
        }
        run(promise + ", \"" + sentence + "\"", lines.toArray(new String[0]));
    }

    /** A call with numbers that are just, and far, beyond what is told in the place of its #. */
    static String[] beyond(String call, int least, int greatest, String due) {
        int[] numbers = {least - 1, greatest + 1, Integer.MIN_VALUE, Integer.MAX_VALUE};
        String[] lines = new String[numbers.length];
        for (int i = 0; i < lines.length; i++) {
            lines[i] = call.replace("#", String.valueOf(numbers[i])) + " = " + due;
        }
        return lines;
    }

    static String[] times(int many, String line) {
        String[] lines = new String[many];
        Arrays.fill(lines, line);
        return lines;
    }

    /** A line for each number from least to greatest, which stands in the place of its #. */
    static String[] each(int least, int greatest, String line) {
        String[] lines = new String[greatest - least + 1];
        for (int i = 0; i < lines.length; i++) {
            lines[i] = line.replace("#", String.valueOf(least + i));
        }
        return lines;
    }

    static void due(String what, Object got, Object want) {
        calls++;
        if (!want.equals(got)) {
            wrong++;
            System.out.println(what + " answered " + got + ", due is " + want);
        }
    }

    /** Ends the test, with exit code 1 if an answer was not as due. */
    static void end() {
        System.out.println(wrong == 0 ? calls + " answers are as due" : wrong + " answers are not as due");
        if (wrong != 0) {
            System.exit(1);
        }
    }

    static int call(WindCarver x, String name, List<Integer> arguments) throws ReflectiveOperationException {
        for (Method method : WindCarver.class.getMethods()) {
            if (method.getName().equals(name) && method.getDeclaringClass() == WindCarver.class) {
                return (Integer) method.invoke(x, arguments.toArray());
            }
        }
        throw new NoSuchMethodException(name);
    }

    /**
     * What is FELT along row 0 of a pass without WORKS is its GUST, and a wall on cell 15 makes that no other:
     * a ROW that has the ITEM four times can so be asked for it. ROW 7 and that GUST are another then.
     */
    private static boolean isItem(WindCarver x, int row, int lane, int i, int v) {
        x.row(7, lane, 4);
        for (int j = 0; j < 4; j++) {
            x.copy(row, i, 7, j, 1);
        }
        return x.count(1) == 0 && x.gust(0, v) >= 0 && x.hidden(1, 0, 7, 0) >> 15 == 1;
    }

    /** What a call told as a text, such as "gust 0 5" or "read a1;", is answered; of "text a1;" the bytes. */
    static int answer(WindCarver x, String call) throws ReflectiveOperationException {
        String[] words = call.split(" ");
        if (words[0].equals("text") || words[0].equals("read")) {
            String text = words.length > 1 ? words[1] : "";
            for (char letter : text.toCharArray()) {
                x.feed(letter == '_' ? ' ' : letter);
            }
            return words[0].equals("text") ? text.length() : x.pass();
        }
        List<Integer> arguments = new ArrayList<>();
        for (int i = 1; i < words.length; i++) {
            arguments.add(Integer.valueOf(words[i]));
        }
        return call(x, words[0], arguments);
    }

    /** The number that is due by a line; of a line without one whatever is answered. */
    static int due(String line, int answer) {
        String[] sides = line.split(" = ");
        if (sides.length < 2) {
            return answer;
        }
        return NAMES.containsKey(sides[1]) ? NAMES.get(sides[1]) : Integer.parseInt(sides[1]);
    }

    private static void step(WindCarver x, String promise, String line) throws ReflectiveOperationException {
        String[] sides = line.split(" = ");
        String[] words = sides[0].split(" ");
        if (words[0].equals("item")) {
            due(promise + ": " + line, isItem(x, Integer.parseInt(words[1]), Integer.parseInt(words[2]),
                    Integer.parseInt(words[3]), Integer.parseInt(sides[1])), true);
            return;
        }
        try {
            int got = answer(x, sides[0]);
            due(promise + ": " + line, got, due(line, got));
        } catch (InvocationTargetException e) {
            due(promise + ": " + line, e.getCause().toString(), sides[1]);
        }
    }
}
