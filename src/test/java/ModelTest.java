import java.util.ArrayList;
import java.util.Arrays;
import java.util.List;

/** Long runs of calls, drawn by a fixed rule, of which class and model must answer the same. */
public final class ModelTest {
    private static final int RUNS = 1500;
    private static final int CALLS = 512;
    private static final int[] ODD = {-1, -2, 4, 5, 6, 8, 16, 21, 32, 41, 100, 256, 1000, 40000, 70000,
        Integer.MAX_VALUE, Integer.MIN_VALUE, Integer.MAX_VALUE - 15};

    /** What may be drawn: a name, how often, and the least and the greatest of each number. */
    private record Draw(String name, int often, int... bounds) {
    }

    private static final List<Draw> DRAWS = List.of(
            new Draw("row", 6, 0, 7, 0, 2, 0, 40), new Draw("set", 16, 0, 7, 0, 39, -300, 300),
            new Draw("copy", 8, 0, 7, 0, 20, 0, 7, 0, 20, 0, 20), new Draw("drop", 2, 0, 7),
            new Draw("feed", 4, 0, 255), new Draw("pass", 1), new Draw("fault", 2),
            new Draw("setUp", 16, 0, 15, 1, 5, 0, 99), new Draw("take", 6, 0, 15), new Draw("turn", 8, 0, 15),
            new Draw("gust", 8, 0, 3, 0, 31), new Draw("hours", 8, 1, 20), new Draw("undo", 10),
            new Draw("cell", 16, 0, 15, 0, 3), new Draw("wind", 4, 0, 3, 0, 1), new Draw("felt", 12, 0, 15, 0, 40),
            new Draw("lost", 6, 0, 40), new Draw("leaves", 6, 0, 3, 0, 40), new Draw("breaks", 6, 0, 1),
            new Draw("stands", 6, 0, 7, 0, 8), new Draw("walls", 10, 0, 15, 0, 60, -1, 1),
            new Draw("hidden", 8, 1, 5, 0, 3, 0, 7, 0, 8), new Draw("most", 8, 0, 3, 0, 1),
            new Draw("lots", 8, 0, 15, 0, 40, 0, 10, 0, 1), new Draw("image", 3, 0, 1), new Draw("restore", 3, 0, 1),
            new Draw("kind", 4, 0, 15), new Draw("as", 6, 0, 15, 0, 5), new Draw("ask", 10, 0, 15, 0, 1),
            new Draw("trace", 10, 0, 7), new Draw("count", 14, 0, 6), new Draw("status", 8));

    private final List<String> calls = new ArrayList<>();
    private final WindCarver x = new WindCarver();
    private final Model model = new Model();
    private long seed;
    private boolean same = true;

    private ModelTest(long seed) {
        this.seed = seed * 7919 + 17;
    }

    public static void main(String[] args) throws ReflectiveOperationException {
        for (int run = 1; run <= RUNS; run++) {
            ModelTest test = new ModelTest(run);
            test.run();
            Check.due("run " + run + " " + tail(test.calls), test.same, true);
        }
        Check.end();
    }

    private static String tail(List<String> calls) {
        return calls.subList(Math.max(0, calls.size() - 12), calls.size()).toString();
    }

    private int draw(int least, int greatest) {
        seed = seed * 6364136223846793005L + 1442695040888963407L;
        return least + (int) ((seed >>> 33) % (greatest - least + 1));
    }

    private void run() throws ReflectiveOperationException {
        int all = DRAWS.stream().mapToInt(Draw::often).sum();
        while (calls.size() < CALLS && same) {
            int kind = draw(0, 99);
            if (kind == 0 || calls.size() < 5) {
                text();
            } else if (kind == 1) {
                shape();
            } else {
                int at = draw(0, all - 1);
                int which = 0;
                while (at >= DRAWS.get(which).often) {
                    at -= DRAWS.get(which).often;
                    which++;
                }
                call(DRAWS.get(which));
            }
        }
    }

    private void call(Draw what) throws ReflectiveOperationException {
        int[] numbers = new int[what.bounds.length / 2];
        for (int i = 0; i < numbers.length; i++) {
            boolean odd = draw(0, 39) == 0;
            numbers[i] = odd ? ODD[draw(0, ODD.length - 1)] : draw(what.bounds[2 * i], what.bounds[2 * i + 1]);
        }
        compare(what.name, numbers);
    }

    private void compare(String name, int... numbers) throws ReflectiveOperationException {
        List<Integer> arguments = new ArrayList<>();
        for (int number : numbers) {
            arguments.add(number);
        }
        int got = Check.call(x, name, arguments);
        int want = model.call(name, numbers);
        calls.add(name + Arrays.toString(numbers) + " " + got + (got == want ? "" : " due " + want));
        same &= got == want;
    }

    private void text() throws ReflectiveOperationException {
        StringBuilder text = new StringBuilder();
        for (char letter : new char[] {'a', 'b'}) {
            text.append(letter).append(draw(0, 31)).append(',').append(draw(0, 31)).append(',')
                    .append(draw(0, 31)).append(',').append(draw(0, 1) * draw(0, 31)).append(';');
        }
        for (int works = draw(0, 7); works > 0; works--) {
            text.append("wnshv".charAt(draw(0, 4))).append(draw(0, 3)).append(',').append(draw(0, 3)).append(',')
                    .append(draw(0, 99)).append(';');
        }
        if (draw(0, 2) == 0) {
            spoil(text);
        }
        for (int i = 0; i < text.length(); i++) {
            compare("feed", text.charAt(i));
        }
        compare("pass");
        compare("fault");
    }

    private void spoil(StringBuilder text) {
        int at = draw(0, text.length() - 1);
        switch (draw(0, 3)) {
            case 0 -> text.setLength(at);
            case 1 -> text.deleteCharAt(at);
            case 2 -> text.insert(at, "0123456789,;abw -A".charAt(draw(0, 17)));
            default -> text.setCharAt(at, "0123456789,;abwn Z".charAt(draw(0, 17)));
        }
    }

    /** Tells a row what is felt now, so that stands() and hidden() have something to find. */
    private void shape() throws ReflectiveOperationException {
        if (model.call("count", 1) == 0 && model.call("wind", 0, 0) == WindCarver.STATE) {
            return;
        }
        int row = draw(0, 7);
        boolean whole = draw(0, 1) == 0;
        int y = draw(0, 3);
        int tried = draw(0, 15);
        int kind = draw(1, 5);
        boolean hides = !whole && model.call("setUp", tried, kind, 9) > 0;
        compare("row", row, draw(0, 2), whole ? 16 : 4);
        List<Integer> felt = new ArrayList<>();
        for (int i = 0; i < (whole ? 16 : 4); i++) {
            felt.add(model.call("felt", whole ? i : 4 * i + y, 0));
        }
        if (hides) {
            // Class and model must go on alike, so the class has the ACT undone, too.
            model.call("undo");
            x.setUp(tried, kind, 9);
            x.undo();
        }
        for (int i = 0; i < felt.size(); i++) {
            compare("set", row, i, felt.get(i));
        }
        compare("status");
        if (whole) {
            compare("stands", row, 0);
        } else {
            compare("hidden", kind, y, row, 0);
        }
    }
}
