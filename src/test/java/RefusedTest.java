import java.util.ArrayList;
import java.util.Arrays;
import java.util.List;

/**
 * "What is refused, or found, changes nothing but status()", and "FORETOLD (nothing changes)": of two objects
 * that were made alike one has a call more, and all that can be seen of them must be the same.
 */
public final class RefusedTest {
    private static final String[] NEW = {};
    private static final String[] RICH = {
        "read a9,9,9,9;b0,0,0,0;n0,0,9;n0,0,9; = -1000128",
        "read a8,16,24,5;b1,2,30,31;w0,1,99;n1,0,12;s1,2,90;h2,3,99;v3,1,99; = 5", "image 0 = 1", "turn 6 = 1",
        "hours 2 = 4", "gust 0 7 = 10", "setUp 14 4 9 = 5", "setUp 15 3 50 = 6", "ask 1 0 = 120",
        "row 0 2 17 = 17", "row 1 1 5 = 5", "row 5 0 40 = 40", "text a32,1"};
    private static final String[] FULL_TAPE = Check.each(1, 120, "feed 97 = #");
    private static final String[] LAST_HOUR = last();

    private static final String[] WITHOUT_PASS = {
        "9: setUp 0 1 1 = STATE", "9: setUp 16 1 1 = STATE", "10: take 0 = STATE", "10: take -1 = STATE",
        "11: turn 0 = STATE", "11: turn 16 = STATE", "12: gust 0 0 = STATE", "12: gust 4 0 = STATE",
        "13: hours 1 = STATE", "13: hours 0 = STATE", "14: undo = STATE", "15: cell 0 0 = STATE",
                "16: wind 0 0 = STATE",
        "17: felt 0 0 = STATE", "18: lost 0 = STATE", "19: leaves 0 0 = STATE", "20: breaks 0 = STATE",
        "21: stands 0 0 = STATE", "22: walls 0 0 -1 = STATE", "23: hidden 1 0 0 0 = STATE", "24: most 0 0 = STATE",
        "25: lots 0 0 0 0 = STATE", "26: image 0 = STATE", "26: image 2 = BAD", "27: restore 0 = STATE",
        "27: restore 2 = BAD", "28: kind 0 = STATE", "29: as 0 0 = STATE", "30: ask 0 0 = STATE", "31: trace 0 = NONE",
        "32: count 7 = BAD", "2: row 0 0 -1 = SIZE", "3: set 0 0 1 = NULL", "4: copy 0 0 1 0 0 = NULL",
                "5: drop 0 = NULL"};

    private static final String[] WITH_PASS = {
        "2: row 8 0 1 = BAD", "2: row -1 0 1 = BAD", "2: row 0 3 1 = BAD", "2: row 0 -1 1 = BAD", "2: row 0 0 41 = BAD",
        "2: row 0 0 -1 = SIZE", "2: row 7 0 -1 = SIZE", "3: set 8 0 1 = BAD", "3: set 7 0 1 = NULL",
        "3: set 0 17 1 = PLACE", "3: set 0 -1 1 = PLACE", "4: copy 8 0 0 0 1 = BAD", "4: copy 0 0 8 0 1 = BAD",
        "4: copy 0 0 7 0 1 = NULL", "4: copy 7 0 0 0 1 = NULL", "4: copy 0 0 1 0 5 = STORE",
                "4: copy 5 0 1 0 5 = STORE",
        "4: copy 0 0 0 1 17 = PLACE", "4: copy 0 1 0 0 17 = PLACE", "4: copy 0 0 0 1 -1 = PLACE",
        "4: copy 5 0 5 1 40 = PLACE", "5: drop 8 = BAD", "5: drop 7 = NULL", "6: feed 256 = BAD", "6: feed -1 = BAD",
        "9: setUp 16 1 1 = BAD", "9: setUp 0 0 1 = BAD", "9: setUp 0 6 1 = BAD", "9: setUp 0 1 -1 = BAD",
        "9: setUp 0 1 100 = BAD", "9: setUp 1 1 1 = STATE", "9: setUp 0 1 1 = FULL", "10: take 16 = BAD",
        "10: take -1 = BAD", "10: take 0 = STATE", "11: turn 16 = BAD", "11: turn -1 = BAD", "11: turn 0 = STATE",
        "11: turn 1 = STATE", "12: gust 4 0 = BAD", "12: gust -1 0 = BAD", "12: gust 0 32 = BAD", "12: gust 0 -1 = BAD",
        "13: hours 0 = BAD", "13: hours 21 = BAD", "13: hours -1 = BAD", "15: cell 16 0 = BAD", "15: cell 0 4 = BAD",
        "15: cell 0 1 = NONE", "16: wind 4 0 = BAD", "16: wind 0 2 = BAD", "17: felt 16 0 = BAD", "17: felt 0 41 = BAD",
        "18: lost 41 = BAD", "19: leaves 4 0 = BAD", "19: leaves 0 41 = BAD", "20: breaks 2 = BAD",
                "21: stands 8 0 = BAD",
        "21: stands 7 0 = NULL", "21: stands 0 2 = PLACE", "21: stands 1 0 = PLACE", "22: walls 16 0 0 = BAD",
        "22: walls 0 100 0 = BAD", "22: walls 0 0 2 = BAD", "23: hidden 0 0 0 0 = BAD", "23: hidden 1 4 0 0 = BAD",
        "23: hidden 1 0 8 0 = BAD", "23: hidden 1 0 7 0 = NULL", "23: hidden 1 0 1 2 = PLACE", "24: most 4 0 = BAD",
        "24: most 0 2 = BAD", "25: lots 16 0 0 0 = BAD", "25: lots 0 100 0 0 = BAD", "25: lots 0 0 11 0 = BAD",
        "25: lots 0 0 0 2 = BAD", "26: image 2 = BAD", "26: image -1 = BAD", "27: restore 2 = BAD",
                "27: restore 1 = STATE",
        "28: kind 16 = BAD", "28: kind 0 = NONE", "29: as 16 0 = BAD", "29: as 1 6 = BAD", "29: as 0 0 = STATE",
        "29: as 1 5 = KIND", "30: ask 16 0 = BAD", "30: ask 1 2 = BAD", "30: ask 0 0 = STATE", "31: trace 16 = NONE",
        "31: trace -1 = NONE", "32: count 7 = BAD", "32: count -1 = BAD"};

    private static final String[] TELLING = {
        "15: cell 1 0", "16: wind 0 0", "17: felt 15 0", "17: felt 15 40", "18: lost 0", "18: lost 40",
                "19: leaves 2 0",
        "19: leaves 2 40", "20: breaks 0", "20: breaks 1", "21: stands 0 0", "21: stands 0 1", "21: stands 5 24",
        "22: walls 13 99 -1", "22: walls 13 40 0", "22: walls 0 0 1", "22: walls 15 99 1", "23: hidden 1 0 1 1",
        "23: hidden 3 3 5 36", "23: hidden 5 2 0 0", "24: most 0 0", "24: most 3 1", "25: lots 15 9 3 0",
        "25: lots 12 99 10 1", "25: lots 13 0 0 0", "28: kind 1", "29: as 1 0", "31: trace 0", "32: count 3",
                "32: count 4",
        "8: fault", "33: status"};

    public static void main(String[] args) throws ReflectiveOperationException {
        Check.run("ahead of what is refused", RICH);
        Check.run("ahead of what is refused", FULL_TAPE);
        Check.run("ahead of what is refused", LAST_HOUR);
        same(NEW, WITHOUT_PASS);
        same(RICH, WITH_PASS);
        same(RICH, TELLING);
        same(FULL_TAPE, "6: feed 97 = FULL", "6: feed 0 = FULL", "6: feed 256 = BAD", "6: feed -1 = BAD");
        same(LAST_HOUR, "13: hours 2 = FULL", "13: hours 20 = FULL", "13: hours 0 = BAD", "13: hours 21 = BAD");
        same(LAST_HOUR, TELLING);
        seen();
        Check.end();
    }

    private static String[] last() {
        List<String> lines = new ArrayList<>(Arrays.asList("read a9,8,7,6;b1,2,3,4;w0,1,30;v2,2,99; = 2"));
        lines.addAll(Arrays.asList(Check.times(49, "hours 20 = 2")));
        lines.addAll(List.of("hours 18 = 2", "setUp 0 1 5 = 3", "row 0 0 16 = 16", "row 1 0 5 = 5", "row 5 0 40 = 40"));
        return lines.toArray(new String[0]);
    }

    private static void same(String[] made, String... calls) throws ReflectiveOperationException {
        WindCarver other = make(made);
        int before = other.status();
        List<String> want = observe(other);
        for (String call : calls) {
            String line = call.substring(call.indexOf(' ') + 1);
            WindCarver x = make(made);
            int got = Check.answer(x, line.split(" = ")[0]);
            int due = Check.due(line, got);
            Check.due("promise " + call, got, due);
            boolean found = due <= -1000011 && due >= -1000015;
            boolean moves = List.of("2", "3", "4", "5", "21", "23", "29").contains(call.split(":")[0]);
            int status = found ? -1000010 - due : moves && due >= 0 ? 0 : before;
            Check.due("promise 33: status() behind " + line, x.status(), status);
            Check.due("promise " + call + ": what can be seen then", observe(x), want);
        }
    }

    private static WindCarver make(String[] lines) throws ReflectiveOperationException {
        WindCarver x = new WindCarver();
        for (String line : lines) {
            Check.answer(x, line.split(" = ")[0]);
        }
        // What is felt now, and what is felt along row 0, so that it can be seen if an ITEM is another.
        for (int cell = 0; cell < 16; cell++) {
            x.set(0, cell, Math.max(0, x.felt(cell, 0)));
        }
        for (int place = 0; place < 4; place++) {
            x.set(1, place + 1, Math.max(0, x.felt(4 * place, 0)));
        }
        x.row(6, 0, -1);
        return x;
    }

    /** All that calls tell of an object but status(); the object is another then. */
    private static List<String> observe(WindCarver x) {
        List<String> seen = new ArrayList<>();
        for (int what = 0; what <= 6; what++) {
            seen.add("count " + what + " " + x.count(what));
        }
        seen.add("fault " + x.fault());
        for (int i = 0; i < 7; i++) {
            seen.add("trace " + i + " " + x.trace(i));
        }
        seen.add("stands 0 " + x.stands(0, 0) + ", 5 " + x.stands(5, 0));
        seen.add("hidden 1 " + x.hidden(1, 0, 1, 1));
        observePass(x, seen);
        for (int left = 0; left < 24 && x.undo() >= 0; left++) {
            seen.add("undone " + x.count(1) + " " + x.count(2) + " " + x.cell(6, 3) + " " + x.wind(0, 0));
        }
        observePass(x, seen);
        for (int k = 0; k <= 1; k++) {
            seen.add("restore " + x.restore(k));
            observePass(x, seen);
        }
        seen.add("pass " + x.pass() + " " + x.fault());
        for (char letter : "a0,0,0,0;b0,0,0,0;".toCharArray()) {
            x.feed(letter);
        }
        seen.add("still " + x.pass() + " " + x.stands(5, 0) + " " + x.stands(5, 16) + " " + x.stands(5, 24));
        for (int row = 0; row <= 7; row++) {
            seen.add("row " + row + " " + x.set(row, 0, 100000) + " " + x.drop(row));
        }
        return seen;
    }

    private static void observePass(WindCarver x, List<String> seen) {
        for (int cell = 0; cell < 16; cell++) {
            seen.add("cell " + cell + " " + x.kind(cell) + (x.kind(cell) < 0 ? "" : " " + x.cell(cell, 2) + " "
                    + x.cell(cell, 3)));
        }
        for (int y = 0; y < 4; y++) {
            seen.add("wind " + y + " " + x.wind(y, 0) + " " + x.wind(y, 1));
        }
        seen.add("felt " + x.felt(13, 0) + " " + x.felt(13, 1));
    }

    /** That what is compared is not the same of all: each of these calls can be seen. */
    private static void seen() throws ReflectiveOperationException {
        String[] calls = {"row 7 0 3", "row 0 2 17", "set 0 3 9", "set 1 4 9", "set 5 3 9", "copy 0 0 0 1 9", "drop 1",
            "feed 97", "pass", "take 1", "turn 6", "turn 15", "gust 3 3", "gust 0 7", "hours 1", "undo", "image 0",
            "image 1", "restore 0", "ask 14 1"};
        List<String> want = observe(make(RICH));
        for (String call : calls) {
            WindCarver x = make(RICH);
            Check.answer(x, call);
            Check.due("what can be seen behind " + call + " is another", observe(x).equals(want), false);
        }
    }
}
