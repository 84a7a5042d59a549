/** The boundary cases that the document names of KINDS, ASKS, THE TRACE, counts and FINDINGS: promises 28 to 33. */
public final class AskedEdgesTest {
    private static final String STILL = "read a0,0,0,0;b0,0,0,0; = 0";
    // A work of each KIND, on the cell of its number; all feel 0.
    private static final String ALL = "read a0,0,0,0;b0,0,0,0;w0,1,0;n0,2,99;s0,3,5;h1,0,0;v1,1,99; = 5";
    private static final String NO_PASS = "STATE: no PASS (ahead of BAD)";

    public static void main(String[] args) {
        kind();
        asRefused();
        as();
        askRefused();
        bodies();
        lent();
        traceEmpty();
        trace();
        countBad();
        counts();
        statusOfRows();
        statusOfOthers();
        findings();
        Check.end();
    }

    private static void kind() {
        Check.edge("promise 28", NO_PASS, Check.beyond("kind #", 0, 15, "STATE"), "kind 0 = STATE");
        Check.edge("promise 28", "BAD", ALL, Check.beyond("kind #", 0, 15, "BAD"));
        Check.edge("promise 28", "NONE: there is none", STILL, Check.each(0, 15, "kind # = NONE"), "setUp 0 1 1 = 1",
                "setUp 15 5 1 = 2", "kind 0 = 1", "kind 15 = 5", Check.each(1, 14, "kind # = NONE"), "take 15 = 1",
                "kind 15 = NONE");
        Check.edge("promise 28", "NONE: it broke", "read a2,0,0,0;b0,0,0,0;w0,0,1; = 1", "kind 0 = 1", "hours 1 = 0",
                "kind 0 = NONE");
        Check.edge("promise 28", "(1 to 5)", ALL, Check.each(1, 5, "kind # = #"));
    }

    private static void asRefused() {
        Check.edge("promise 29", "no PASS ahead of BAD", Check.beyond("as # 0", 0, 15, "STATE"),
                Check.beyond("as 0 #", 0, 5, "STATE"), "as 0 0 = STATE", "status = 0");
        Check.edge("promise 29", "BAD", ALL, Check.beyond("as # 0", 0, 15, "BAD"), Check.beyond("as 1 #", 0, 5, "BAD"));
        Check.edge("promise 29", "BAD ahead of STATE: there is none", ALL, Check.beyond("as 0 #", 0, 5, "BAD"),
                "as 0 0 = STATE");
        Check.edge("promise 29", "STATE: there is none", ALL, Check.each(0, 5, "as 0 # = STATE"), "as 6 0 = STATE",
                "as 15 0 = STATE", "take 1 = 4", "as 1 0 = STATE");
    }

    private static void as() {
        Check.edge("promise 29", "0 WORK: all are", ALL, Check.each(1, 5, "as # 0 = #"), "status = 0");
        Check.edge("promise 29", "KIND: it is no such one, of a wall", ALL, "as 1 1 = 1",
                Check.each(2, 5, "as 1 # = KIND"));
        Check.edge("promise 29", "KIND: it is no such one, of a net", ALL, "as 2 1 = 2", "as 2 2 = 2",
                Check.each(3, 5, "as 2 # = KIND"));
        Check.edge("promise 29", "KIND: it is no such one, of a shutter", ALL, "as 3 1 = 3", "as 3 2 = KIND",
                "as 3 3 = 3",
                "as 3 4 = KIND", "as 3 5 = KIND");
        Check.edge("promise 29", "KIND: it is no such one, of a hand", ALL, Check.each(1, 3, "as 4 # = KIND"),
                "as 4 4 = 4",
                "as 4 5 = KIND");
        Check.edge("promise 29", "KIND: it is no such one, of a vane", ALL, Check.each(1, 3, "as 5 # = KIND"),
                "as 5 4 = 5",
                "as 5 5 = 5");
        Check.edge("promise 29", "the cell: 0 and 15", STILL, "setUp 0 5 1 = 1", "setUp 15 1 1 = 2", "as 0 4 = 0",
                "as 15 1 = 15", "as 15 4 = KIND");
    }

    private static void askRefused() {
        Check.edge("promise 30", "no PASS ahead of BAD", Check.beyond("ask # 0", 0, 15, "STATE"),
                Check.beyond("ask 0 #", 0, 1, "STATE"), "ask 0 0 = STATE");
        Check.edge("promise 30", "BAD", ALL, Check.beyond("ask # 0", 0, 15, "BAD"), Check.beyond("ask 1 #",
                0, 1, "BAD"));
        Check.edge("promise 30", "BAD ahead of STATE: there is none", ALL, Check.beyond("ask 0 #", 0, 1, "BAD"),
                "ask 0 0 = STATE");
        Check.edge("promise 30", "STATE: there is none", ALL, "ask 0 0 = STATE", "ask 0 1 = STATE", "ask 6 0 = STATE",
                "ask 15 1 = STATE", "take 4 = 4", "ask 4 0 = STATE");
    }

    private static void bodies() {
        // A wall on cell 1 that holds 0 and feels 0: SIZE 0 and MARK 1, MARK the cell and 0.
        Check.edge("promise 30", "11 of WALLS, 21 of WALLS", ALL, "ask 1 0 = 1", "ask 1 1 = 1", "gust 1 31 = 0",
                "ask 1 0 = 32", "ask 1 1 = 32");
        Check.edge("promise 30", "12 of NETS: 0 less what 11 gives; 24: what 21 gives, twice", ALL, "ask 2 0 = -103",
                "ask 2 1 = 4", "gust 2 31 = 0", "ask 2 0 = -165", "ask 2 1 = 66");
        Check.edge("promise 30", "22 of SHUTTERS: what 21 gives, less 1000", ALL, "ask 3 0 = -992", "ask 3 1 = -997",
                "gust 3 31 = 0", "ask 3 1 = -966", "ask 3 0 = -961", "turn 3 = 1", "ask 3 1 = -966");
        Check.edge("promise 30", "13 of HANDS: what 10 gives, less 100; 23: what 20 gives, less SIZE",
                ALL, "ask 4 0 = -100",
                "ask 4 1 = 104", "gust 0 31 = 0", "ask 4 0 = -100", "ask 4 1 = 104");
        Check.edge("promise 30", "14 of VANES: what 13 gives, twice", ALL, "ask 5 0 = -2", "ask 5 1 = 7", "take 5 = 4",
                "setUp 5 5 0 = 5", "ask 5 0 = -200", "ask 5 1 = 205");
        Check.edge("promise 30", "on cell 0, that holds 0 and feels 0", STILL, "setUp 0 1 0 = 1", "ask 0 0 = 0",
                "ask 0 1 = 0",
                "take 0 = 0", "setUp 0 2 0 = 1", "ask 0 0 = 0", "ask 0 1 = 0", "take 0 = 0", "setUp 0 3 0 = 1",
                "ask 0 0 = -1000", "ask 0 1 = -1000", "take 0 = 0", "setUp 0 4 0 = 1", "ask 0 0 = -100",
                "ask 0 1 = 100",
                "take 0 = 0", "setUp 0 5 0 = 1", "ask 0 0 = -200", "ask 0 1 = 200");
        Check.edge("promise 30", "on cell 15, that holds 99", "read a0,0,0,31;b0,0,0,0; = 0", "setUp 15 2 99 = 1",
                "ask 15 0 = -191", "ask 15 1 = 92", "take 15 = 0", "setUp 15 1 99 = 1", "ask 15 0 = 145",
                "ask 15 1 = 46",
                "take 15 = 0", "setUp 15 5 99 = 1", "ask 15 0 = -2", "ask 15 1 = 17");
    }

    private static void lent() {
        Check.edge("promise 30", "else that of the nearest KIND that it is, too", ALL, "ask 3 0 = -992", "trace 0 = 11",
                "ask 5 1 = 7", "trace 0 = 23");
        Check.edge("promise 30", "the BODY told for the KIND begins", ALL, "ask 1 0 = 1", "trace 0 = 11", "ask 1 1 = 1",
                "trace 0 = 21", "ask 2 0 = -103", "trace 0 = 12", "ask 2 1 = 4", "trace 0 = 24", "ask 3 1 = -997",
                "trace 0 = 22", "ask 4 0 = -100", "trace 0 = 13", "ask 4 1 = 104", "trace 0 = 23", "ask 5 0 = -2",
                "trace 0 = 14");
        Check.edge("promise 30", "SIZE, MARK within others are asked of the same WORK anew", ALL, "ask 2 0 = -103",
                "trace 3 = 24", "ask 3 0 = -992", "trace 2 = 22", "ask 5 1 = 7", "trace 2 = 14", "ask 4 1 = 104",
                "trace 2 = 13");
        Check.edge("promise 30", "(asked once)", ALL, "ask 5 0 = -2", "trace 1 = 13", "trace 2 = 10", "trace 3 = NONE",
                "ask 2 1 = 4", "trace 1 = 21", "trace 2 = 20", "trace 3 = NONE");
    }

    private static void traceEmpty() {
        Check.edge("promise 30", "THE TRACE is empty ahead of it", ALL, "ask 2 0 = -103", "trace 5 = 20",
                "trace 6 = NONE",
                "ask 4 0 = -100", "trace 0 = 13", "trace 1 = 10", Check.each(2, 15, "trace # = NONE"));
        Check.edge("promise 30", "(refused, it stays)", ALL, "ask 4 0 = -100", "ask 0 0 = STATE", "trace 0 = 13",
                "trace 1 = 10", "ask 16 0 = BAD", "ask 4 2 = BAD", "trace 0 = 13", "trace 1 = 10", "trace 2 = NONE");
        Check.edge("promise 30", "(refused, it stays), without the work that was asked", ALL, "ask 4 0 = -100",
                "take 4 = 4",
                "ask 4 0 = STATE", "trace 0 = 13", STILL, "trace 1 = 10", "ask 4 0 = STATE", "trace 0 = 13");
    }

    private static void trace() {
        Check.edge("promise 31", "NONE", Check.each(0, 16, "trace # = NONE"), Check.beyond("trace #", 0, 15, "NONE"),
                ALL,
                "trace 0 = NONE", "ask 2 0 = -103", Check.each(6, 16, "trace # = NONE"),
                Check.beyond("trace #", 0, 15, "NONE"));
        Check.edge("promise 31", "Number i of THE TRACE", ALL, "ask 2 0 = -103", "trace 0 = 12", "trace 1 = 11",
                "trace 2 = 10", "trace 3 = 24", "trace 4 = 21", "trace 5 = 20", "trace 0 = 12");
    }

    private static void countBad() {
        Check.edge("promise 32", "BAD", Check.beyond("count #", 0, 6, "BAD"), ALL, Check.beyond("count #",
                0, 6, "BAD"));
    }

    private static void counts() {
        Check.edge("promise 32", "0 ROWS: none to 8", "count 0 = 0", "row 7 0 0 = 0", "count 0 = 1", Check.each(0, 7,
                "row # 0 1 = 1"), "count 0 = 8", "drop 0 = 1", "count 0 = 7", "row 0 0 -1 = SIZE", "count 0 = 7");
        Check.edge("promise 32", "1 WORKS: none to 6", STILL, "count 1 = 0", Check.each(1, 6, "setUp # 1 9 = #"),
                "count 1 = 6",
                "setUp 7 1 1 = FULL", "count 1 = 6", "take 1 = 5", "count 1 = 5");
        Check.edge("promise 32", "2 the HOUR: 0 to 999", STILL, "count 2 = 0", Check.times(49, "hours 20 = 0"),
                "count 2 = 980", "hours 19 = 0", "count 2 = 999", "hours 1 = FULL", "count 2 = 999", "undo = 23",
                "count 2 = 998", STILL, "count 2 = 0");
        Check.edge("promise 32", "3 what is LOST now, 4 what LEAVES now", "count 3 = 0", "count 4 = 0",
                "read a31,31,31,31;b0,0,0,0; = 0", "count 3 = 0", "count 4 = 124", "setUp 0 4 99 = 1", "count 3 = 31",
                "count 4 = 93", "setUp 1 4 99 = 2", "setUp 4 4 99 = 3", "count 3 = 62", "count 4 = 62");
        Check.edge("promise 32", "LOST now, LEAVES now: whatever was foretold before",
                "read a0,9,0,0;b1,1,0,0;h0,0,90; = 1",
                "felt 0 40 = 8", "count 4 = 9", "felt 0 40 = 8", "count 3 = 0", "lost 40 = 8", "count 4 = 9",
                "lost 40 = 8",
                "count 3 = 0", "lots 0 0 10 0 = 1", "count 4 = 9", "most 1 0 = 2", "count 4 = 9", "breaks 0 = NONE",
                "count 4 = 9", "walls 15 99 -1 = NONE", "count 4 = 9");
        Check.edge("promise 32", "5 ACTS that can be undone: none to 24", STILL, "count 5 = 0", "hours 20 = 0",
                "count 5 = 20",
                "hours 3 = 0", "count 5 = 23", "gust 0 0 = 0", "count 5 = 24", "gust 0 0 = 0", "count 5 = 24",
                "undo = 23",
                "count 5 = 23");
        Check.edge("promise 32", "6 bytes on the tape: none to 120", "count 6 = 0", Check.each(1, 120, "feed 0 = #"),
                "count 6 = 120", "feed 0 = FULL", "count 6 = 120", "pass = -1000100", "count 6 = 0");
    }

    private static void statusOfRows() {
        Check.edge("promise 33", "0: there was none", "status = 0", "count 0 = 0", "row 8 0 1 = BAD", "set 8 0 1 = BAD",
                "copy 8 0 0 0 1 = BAD", "drop 8 = BAD", "status = 0");
        Check.edge("promise 33", "the number of its FINDING: row, 4 SIZE", "row 0 0 -1 = SIZE", "status = 4",
                "row 8 0 1 = BAD", "row 0 3 -1 = BAD", "row 0 0 41 = BAD", "status = 4", "row 0 0 0 = 0", "status = 0");
        Check.edge("promise 33", "the number of its FINDING: set, 1 NULL, 2 PLACE", "set 0 0 1 = NULL", "status = 1",
                "row 0 0 1 = 1", "status = 0", "set 0 1 1 = PLACE", "status = 2", "set 8 0 1 = BAD", "status = 2",
                "set 0 0 1 = 1", "status = 0");
        Check.edge("promise 33", "the number of its FINDING: copy, 1 NULL, 2 PLACE, 5 STORE", "row 0 0 1 = 1",
                "row 1 1 1 = 1", "copy 0 0 2 0 1 = NULL", "status = 1", "copy 0 0 1 0 1 = STORE", "status = 5",
                "copy 0 0 0 0 2 = PLACE", "status = 2", "copy 0 0 8 0 2 = BAD", "status = 2", "copy 0 0 0 0 1 = 1",
                "status = 0");
        Check.edge("promise 33", "the number of its FINDING: drop, 1 NULL", "drop 0 = NULL", "status = 1",
                "drop 8 = BAD",
                "status = 1", "row 0 0 0 = 0", "drop 1 = NULL", "status = 1", "drop 0 = 0", "status = 0");
    }

    private static void statusOfOthers() {
        Check.edge("promise 33", "stands, a call with a ROW", "row 0 0 16 = 16", "drop 1 = NULL", "stands 0 0 = STATE",
                "status = 1", STILL, "stands 0 0 = 40", "status = 0", "stands 0 1 = PLACE", "status = 2",
                "stands 8 0 = BAD",
                "status = 2", "stands 1 0 = NULL", "status = 1", "stands 0 0 = 40", "status = 0");
        Check.edge("promise 33", "hidden, a call with a ROW", "row 0 0 4 = 4", "drop 1 = NULL",
                "hidden 1 0 0 0 = STATE",
                "status = 1", STILL, "hidden 1 0 0 0 = 65535", "status = 0", "hidden 1 0 0 1 = PLACE", "status = 2",
                "hidden 1 0 8 0 = BAD", "hidden 0 0 0 0 = BAD", "hidden 1 4 0 0 = BAD", "status = 2",
                "hidden 1 0 1 0 = NULL",
                "status = 1", "set 0 0 5 = 5", "hidden 1 0 0 0 = 0", "status = 0");
        Check.edge("promise 33", "or as()", ALL, "as 1 4 = KIND", "status = 3", "as 16 0 = BAD", "as 1 6 = BAD",
                "as 0 0 = STATE", "status = 3", "as 1 1 = 1", "status = 0", "as 4 5 = KIND", "drop 0 = NULL",
                "status = 1",
                "as 4 4 = 4", "status = 0");
        Check.edge("promise 33", "calls without a ROW leave it", ALL, "as 1 4 = KIND", "feed 97 = 1", "feed 256 = BAD",
                "pass = -1000101", "fault = 1", "setUp 15 1 1 = 6", "setUp 14 1 1 = FULL", "take 15 = 5",
                "take 15 = STATE",
                "turn 3 = 1", "gust 0 0 = 0", "gust 9 0 = BAD", "hours 1 = 5", "hours 0 = BAD", "undo = 4",
                "cell 0 0 = 0",
                "wind 0 0 = 0", "felt 0 0 = 0", "lost 0 = 0", "leaves 0 0 = 0", "breaks 0 = NONE", "walls 0 0 -1 = 0",
                "most 0 0 = 0", "lots 0 0 0 0 = 1", "image 0 = 1", "restore 0 = 1", "restore 1 = STATE", "kind 1 = 1",
                "ask 1 0 = 1", "trace 0 = 11", "count 0 = 0", "count 9 = BAD", STILL, "status = 3", "status = 3");
    }

    private static void findings() {
        Check.edge("promise 33", "-1000010 less 1 NULL, 2 PLACE, 3 KIND, 4 SIZE, 5 STORE", ALL, "set 0 0 0 = -1000011",
                "row 0 0 1 = 1", "set 0 1 0 = -1000012", "as 1 4 = -1000013", "row 0 0 -1 = -1000014", "row 1 1 1 = 1",
                "copy 0 0 1 0 1 = -1000015");
    }
}
