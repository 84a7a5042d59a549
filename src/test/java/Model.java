import java.util.ArrayDeque;
import java.util.ArrayList;
import java.util.Deque;
import java.util.HashMap;
import java.util.List;
import java.util.Map;
import java.util.TreeMap;
import java.util.function.IntPredicate;
import java.util.regex.Matcher;
import java.util.regex.Pattern;

/**
 * The document once more, in other words than the class: air is asked for from where it comes, fractions
 * are reckoned by chance of each work in turn, a text is cut by a pattern. Slow, and shares no code with it.
 */
final class Model {
    private static final int NONE = -1000000, BAD = -1000001, STATE = -1000002, FULL = -1000003;
    private static final String SORTS = "-wnshv";
    private static final String[] IS = {"0", "01", "012", "013", "04", "045"};

    private record Work(char sort, int holds, boolean open) {
    }

    /** A PASS that is never changed, but followed by another. */
    private record State(int hour, List<Integer> gusts, List<Integer> rises, TreeMap<Integer, Work> works) {
        State with(int cell, Work work) {
            TreeMap<Integer, Work> next = new TreeMap<>(works);
            if (work == null) {
                next.remove(cell);
            } else {
                next.put(cell, work);
            }
            return new State(hour, gusts, rises, next);
        }

        boolean free(int cell) {
            return !works.containsKey(cell);
        }

        /** What comes to X, Y; behind X 3, and above and below the rows, what goes there. */
        int comes(int x, int y) {
            if (x == 0) {
                return y >= 0 && y <= 3 ? gusts.get(y) : 0;
            }
            return goes(x - 1, y, 0) + goes(x - 1, y + 1, -1) + goes(x - 1, y - 1, 1);
        }

        private int goes(int x, int y, int way) {
            if (y < 0 || y > 3) {
                return 0;
            }
            int all = comes(x, y);
            Work work = works.get(4 * x + y);
            char sort = work == null || work.open ? '-' : work.sort;
            int on = sort == '-' ? all : sort == 'n' ? all / 2 : 0;
            int left = all - on;
            int north = sort == 'h' || sort == 'v' && hour % 2 == 0 ? left : sort == 'v' ? 0 : left / 2;
            return way == 0 ? on : way < 0 ? north : left - north;
        }

        int felt(int cell) {
            return comes(cell / 4, cell % 4);
        }

        List<Integer> allFelt() {
            List<Integer> felt = new ArrayList<>();
            for (int cell = 0; cell < 16; cell++) {
                felt.add(felt(cell));
            }
            return felt;
        }

        int lost() {
            int lost = 0;
            for (int x = 1; x <= 4; x++) {
                lost += comes(x, -1) + comes(x, 4);
            }
            return lost;
        }

        int leaves(int y) {
            return comes(4, y);
        }

        List<Integer> breaking() {
            List<Integer> cells = new ArrayList<>();
            works.forEach((cell, work) -> {
                if (felt(cell) > work.holds) {
                    cells.add(cell);
                }
            });
            return cells;
        }

        State next() {
            TreeMap<Integer, Work> stay = new TreeMap<>(works);
            stay.keySet().removeAll(breaking());
            List<Integer> risen = new ArrayList<>();
            for (int y = 0; y < 4; y++) {
                int gust = gusts.get(y) + rises.get(y);
                risen.add(gust >= 32 ? gust - 32 : gust);
            }
            return new State(hour + 1, risen, rises, stay);
        }

        State later(int d) {
            State state = this;
            for (int i = 0; i < d; i++) {
                state = state.next();
            }
            return state;
        }

        /** In how many of 10 to the number of works it is felt, works from a cell on yet to be drawn. */
        long lots(int from, int c, IntPredicate enough, int cell) {
            Integer work = works.ceilingKey(from);
            if (work == null) {
                return enough.test(felt(cell)) ? 1 : 0;
            }
            return c * with(work, null).lots(work + 1, c, enough, cell)
                    + (10 - c) * lots(work + 1, c, enough, cell);
        }
    }

    private record Fault(int place, int number) {
    }

    private final Map<Integer, int[]> rows = new HashMap<>();
    private final Map<Integer, Integer> lanes = new HashMap<>();
    private final StringBuilder tape = new StringBuilder();
    private final Deque<State> acts = new ArrayDeque<>();
    private final Map<Integer, State> images = new HashMap<>();
    private final List<Integer> trace = new ArrayList<>();
    private State now;
    private int fault;
    private int status;

    int call(String name, int... p) {
        int answer = p.length == 0 ? plain(name) : answer(name, p);
        boolean told = List.of("row", "set", "copy", "drop", "stands", "hidden", "as").contains(name);
        if (told && (answer > NONE || answer < FULL)) {
            status = answer < FULL ? -1000010 - answer : 0;
        }
        return answer;
    }

    private int plain(String name) {
        switch (name) {
            case "pass": return pass();
            case "fault": return fault;
            case "undo":
                if (acts.isEmpty()) {
                    return STATE;
                }
                now = acts.pop();
                return acts.size();
            default: return status;
        }
    }

    private int answer(String name, int[] p) {
        switch (name) {
            case "row": return row(p[0], p[1], p[2]);
            case "set": return set(p[0], p[1], p[2]);
            case "copy": return copy(p[0], p[1], p[2], p[3], p[4]);
            case "drop": return out(p[0], 7) ? BAD : !rows.containsKey(p[0]) ? -1000011 : rows.remove(p[0]).length;
            case "feed": return out(p[0], 255) ? BAD : tape.length() == 120 ? FULL : tape.append((char) p[0]).length();
            case "image": return out(p[0], 1) ? BAD : now == null ? STATE : keep(p[0]);
            case "restore": return out(p[0], 1) ? BAD : !images.containsKey(p[0]) ? STATE : back(p[0]);
            case "trace": return p[0] >= 0 && p[0] < trace.size() ? trace.get(p[0]) : NONE;
            case "count": return count(p[0]);
            default: return now == null ? STATE : ofPass(name, p);
        }
    }

    private int ofPass(String name, int[] p) {
        switch (name) {
            case "setUp": case "take": case "turn": case "gust": case "hours": return act(name, p);
            case "kind": case "as": case "ask": return asked(name, p);
            case "cell": case "wind": return look(name, p);
            default: return foretold(name, p);
        }
    }

    private static boolean out(int v, int last) {
        return v < 0 || v > last;
    }

    private int row(int row, int lane, int n) {
        if (out(row, 7) || out(lane, 2) || n > 40) {
            return BAD;
        }
        if (n < 0) {
            return -1000014;
        }
        rows.put(row, new int[n]);
        lanes.put(row, lane);
        return n;
    }

    private int set(int row, int i, int v) {
        if (out(row, 7) || !rows.containsKey(row)) {
            return out(row, 7) ? BAD : -1000011;
        }
        if (out(i, rows.get(row).length - 1)) {
            return -1000012;
        }
        int shift = new int[] {24, 16, 0}[lanes.get(row)];
        rows.get(row)[i] = v << shift >> shift;
        return rows.get(row)[i];
    }

    private int copy(int a, int i, int b, int j, int n) {
        if (out(a, 7) || out(b, 7)) {
            return BAD;
        }
        if (!rows.containsKey(a) || !rows.containsKey(b)) {
            return -1000011;
        }
        if (!lanes.get(a).equals(lanes.get(b))) {
            return -1000015;
        }
        if (i < 0 || j < 0 || n < 0 || (long) i + n > rows.get(a).length || (long) j + n > rows.get(b).length) {
            return -1000012;
        }
        int[] were = rows.get(a).clone();
        for (int k = 0; k < n; k++) {
            rows.get(b)[j + k] = were[i + k];
        }
        return n;
    }

    private int pass() {
        String text = tape.toString();
        tape.setLength(0);
        TreeMap<Integer, Work> works = new TreeMap<>();
        List<Integer> winds = new ArrayList<>();
        Fault found = read(text, winds, works);
        if (found != null) {
            fault = found.number;
            return -1000100 - found.place;
        }
        now = new State(0, winds.subList(0, 4), winds.subList(4, 8), works);
        acts.clear();
        return works.size();
    }

    /** What may stand where: L a sort, G, X, Y, H numbers, others as they are. */
    private static Fault read(String text, List<Integer> winds, TreeMap<Integer, Work> works) {
        String due = "aG,G,G,G;bG,G,G,G;";
        int step = 0;
        char sort = '-';
        int x = 0;
        int y = 0;
        Matcher tokens = Pattern.compile("(?s)[0-9]+|.").matcher(text);
        while (tokens.find()) {
            String token = tokens.group();
            if (step == due.length()) {
                due = "LX,Y,H;";
                step = 0;
            }
            char wanted = due.charAt(step++);
            int number = token.matches("[0-9]{1,2}") ? Integer.parseInt(token) : -1;
            int wrong = 0;
            if (wanted == 'L') {
                boolean isSort = token.charAt(0) != '-' && SORTS.contains(token);
                wrong = !isSort ? 1 : works.size() == 6 ? 3 : 0;
                sort = token.charAt(0);
            } else if (Character.isUpperCase(wanted)) {
                int last = wanted == 'G' ? 31 : wanted == 'H' ? 99 : 3;
                wrong = number < 0 ? 1 : number > last || wanted == 'Y' && works.containsKey(4 * x + number) ? 2 : 0;
            } else {
                wrong = token.equals(String.valueOf(wanted)) ? 0 : 1;
            }
            if (wrong != 0) {
                return new Fault(tokens.start(), wrong);
            }
            switch (wanted) {
                case 'G' -> winds.add(number);
                case 'X' -> x = number;
                case 'Y' -> y = number;
                case 'H' -> x = 4 * x + y + 100 * number;
                default -> { }
            }
            if (due.startsWith("L") && step == due.length()) {
                works.put(x % 100, new Work(sort, x / 100, false));
            }
        }
        boolean whole = winds.size() == 8 && step == due.length();
        return whole ? null : new Fault(text.length(), 1);
    }

    private int turned(State next, int answer) {
        acts.push(now);
        if (acts.size() > 24) {
            acts.removeLast();
        }
        now = next;
        return answer;
    }

    private int act(String name, int[] p) {
        if (name.equals("hours")) {
            if (p[0] < 1 || p[0] > 20 || now.hour + p[0] > 999) {
                return p[0] < 1 || p[0] > 20 ? BAD : FULL;
            }
            for (int i = 0; i < p[0]; i++) {
                turned(now.next(), 0);
            }
            return now.works.size();
        }
        if (name.equals("gust")) {
            if (out(p[0], 3) || out(p[1], 31)) {
                return BAD;
            }
            List<Integer> gusts = new ArrayList<>(now.gusts);
            int was = gusts.set(p[0], p[1]);
            return turned(new State(now.hour, gusts, now.rises, now.works), was);
        }
        if (out(p[0], 15)) {
            return BAD;
        }
        Work work = now.works.get(p[0]);
        if (name.equals("setUp")) {
            if (p[1] < 1 || p[1] > 5 || out(p[2], 99)) {
                return BAD;
            }
            int many = now.works.size();
            return work != null ? STATE : many == 6 ? FULL
                    : turned(now.with(p[0], new Work(SORTS.charAt(p[1]), p[2], false)), many + 1);
        }
        if (work == null) {
            return STATE;
        }
        if (name.equals("take")) {
            return turned(now.with(p[0], null), now.works.size() - 1);
        }
        return work.sort != 's' ? STATE
                : turned(now.with(p[0], new Work('s', work.holds, !work.open)), work.open ? 0 : 1);
    }

    private int look(String name, int[] p) {
        if (name.equals("wind")) {
            return out(p[0], 3) || out(p[1], 1) ? BAD : (p[1] == 0 ? now.gusts : now.rises).get(p[0]);
        }
        if (out(p[0], 15) || out(p[1], 3)) {
            return BAD;
        }
        Work work = now.works.get(p[0]);
        if (p[1] == 0 || work == null) {
            return p[1] == 0 ? now.felt(p[0]) : NONE;
        }
        return p[1] == 1 ? SORTS.indexOf(work.sort) : p[1] == 2 ? work.holds : work.open ? 1 : 0;
    }

    private int foretold(String name, int[] p) {
        switch (name) {
            case "felt": return out(p[0], 15) || out(p[1], 40) ? BAD : now.later(p[1]).felt(p[0]);
            case "lost": return out(p[0], 40) ? BAD : now.later(p[0]).lost();
            case "leaves": return out(p[0], 3) || out(p[1], 40) ? BAD : now.later(p[1]).leaves(p[0]);
            case "breaks": return out(p[0], 1) ? BAD : breaks(p[0]);
            case "stands": return out(p[0], 7) ? BAD : stands(p[0], p[1]);
            case "walls": return out(p[0], 15) || out(p[1], 99) || out(p[2] + 1, 2) ? BAD : walls(p[0], p[1], p[2]);
            case "hidden": return p[0] < 1 || p[0] > 5 || out(p[1], 3) || out(p[2], 7) ? BAD
                    : hidden(p[0], p[1], p[2], p[3]);
            case "most": return out(p[0], 3) || out(p[1], 1) ? BAD : most(p[0], p[1]);
            default: return out(p[0], 15) || out(p[1], 99) || out(p[2], 10) || out(p[3], 1) ? BAD
                    : lots(p[0], p[1], p[2], p[3]);
        }
    }

    private int breaks(int what) {
        for (int hour = 1; hour <= 40; hour++) {
            List<Integer> cells = now.later(hour - 1).breaking();
            if (!cells.isEmpty()) {
                return what == 0 ? hour : cells.get(0);
            }
        }
        return NONE;
    }

    private static boolean lacks(int[] items, int i, int n) {
        return i < 0 || (long) i + n > items.length;
    }

    private int stands(int row, int i) {
        int[] items = rows.get(row);
        if (items == null || lacks(items, i, 16)) {
            return items == null ? -1000011 : -1000012;
        }
        List<Integer> told = new ArrayList<>();
        for (int cell = 0; cell < 16; cell++) {
            told.add(items[i + cell]);
        }
        int hours = 0;
        while (hours < 40 && now.later(hours).allFelt().equals(told)) {
            hours++;
        }
        return hours;
    }

    private int walls(int cell, int v, int k) {
        List<Integer> cells = fewest(now, cell, v);
        if (cells == null) {
            return NONE;
        }
        return k < 0 ? cells.size() : k < cells.size() ? cells.get(k) : NONE;
    }

    private static List<Integer> fewest(State state, int cell, int v) {
        if (state.felt(cell) >= v) {
            return List.of();
        }
        List<Integer> best = null;
        for (int a = 0; a < 16; a++) {
            for (int b = a; b < 16; b++) {
                Work wall = new Work('w', 0, false);
                boolean can = state.free(a) && state.free(b) && (best == null || a == b && best.size() == 2);
                if (can && state.with(a, wall).with(b, wall).felt(cell) >= v) {
                    best = a == b ? List.of(a) : List.of(a, b);
                }
            }
        }
        return best;
    }

    private int hidden(int kind, int y, int row, int i) {
        int[] items = rows.get(row);
        if (items == null || lacks(items, i, 4)) {
            return items == null ? -1000011 : -1000012;
        }
        int bits = 0;
        for (int cell = 0; cell < 16; cell++) {
            State state = now.with(cell, new Work(SORTS.charAt(kind), 0, false));
            boolean same = now.free(cell);
            for (int x = 0; x < 4; x++) {
                same &= state.comes(x, y) == items[i + x];
            }
            bits += same ? Math.round(Math.pow(2, cell)) : 0;
        }
        return bits;
    }

    private int most(int y, int what) {
        int best = NONE;
        for (int cell = 15; cell >= 0; cell--) {
            if (now.free(cell)) {
                int leaves = now.with(cell, new Work('w', 0, false)).leaves(y);
                best = Math.max(best, 100 * leaves + 15 - cell);
            }
        }
        return best == NONE ? NONE : what == 0 ? 15 - best % 100 : best / 100;
    }

    private int lots(int cell, int v, int c, int what) {
        long above = now.lots(0, c, felt -> felt >= v, cell);
        long below = 1;
        for (int i = 0; i < now.works.size(); i++) {
            below *= 10;
        }
        for (long by = 2; by <= 5; by += 3) {
            while (below % by == 0 && above % by == 0) {
                below /= by;
                above /= by;
            }
        }
        return (int) (above == 0 ? what : what == 0 ? above : below);
    }

    private int keep(int k) {
        images.put(k, now);
        return 1;
    }

    private int back(int k) {
        now = images.get(k);
        acts.clear();
        return 1;
    }

    private int asked(String name, int[] p) {
        int last = name.equals("as") ? 5 : name.equals("ask") ? 1 : 0;
        if (out(p[0], 15) || p.length > 1 && out(p[1], last)) {
            return BAD;
        }
        Work work = now.works.get(p[0]);
        if (work == null) {
            return name.equals("kind") ? NONE : STATE;
        }
        int kind = SORTS.indexOf(work.sort);
        if (name.equals("kind")) {
            return kind;
        }
        if (name.equals("as")) {
            return IS[kind].indexOf('0' + p[1]) >= 0 ? p[0] : -1000013;
        }
        trace.clear();
        Asked asked = work(work.sort, p[0], work.holds, now.felt(p[0]), trace);
        return p[1] == 0 ? asked.size() : asked.mark();
    }

    private static Asked work(char sort, int cell, int holds, int felt, List<Integer> trace) {
        Asked asked = sort == 'w' ? new Wall() : sort == 'n' ? new Net() : sort == 's' ? new Shutter()
                : sort == 'h' ? new Hand() : new Vane();
        asked.cell = cell;
        asked.holds = holds;
        asked.felt = felt;
        asked.trace = trace;
        return asked;
    }

    private int count(int what) {
        switch (what) {
            case 0: return rows.size();
            case 1: return now == null ? 0 : now.works.size();
            case 2: return now == null ? 0 : now.hour;
            case 3: return now == null ? 0 : now.lost();
            case 4: return now == null ? 0 : now.leaves(0) + now.leaves(1) + now.leaves(2) + now.leaves(3);
            case 5: return acts.size();
            case 6: return tape.length();
            default: return BAD;
        }
    }

    /** KINDS as Java's own: a BODY that is told stands over the one that is lent. */
    private static class Asked {
        int cell;
        int holds;
        int felt;
        List<Integer> trace;

        int size() {
            trace.add(10);
            return holds;
        }

        int mark() {
            trace.add(20);
            return cell;
        }
    }

    private static class Wall extends Asked {
        @Override
        int size() {
            trace.add(11);
            return super.size() + mark();
        }

        @Override
        int mark() {
            trace.add(21);
            return super.mark() + felt;
        }
    }

    private static final class Net extends Wall {
        @Override
        int size() {
            trace.add(12);
            return -super.size();
        }

        @Override
        int mark() {
            trace.add(24);
            return 2 * super.mark();
        }
    }

    private static final class Shutter extends Wall {
        @Override
        int mark() {
            trace.add(22);
            return super.mark() - 1000;
        }
    }

    private static class Hand extends Asked {
        @Override
        int size() {
            trace.add(13);
            return super.size() - 100;
        }

        @Override
        int mark() {
            trace.add(23);
            return super.mark() - size();
        }
    }

    private static final class Vane extends Hand {
        @Override
        int size() {
            trace.add(14);
            return 2 * super.size();
        }
    }
}
