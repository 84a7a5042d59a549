import java.util.ArrayList;
import java.util.List;

/** The boundary cases that the document names of works, HOURS and ACTS, sentence by sentence: promises 9 to 16. */
public final class ActEdgesTest {
    private static final String STILL = "read a0,0,0,0;b0,0,0,0; = 0";
    private static final String SIX = "read a0,0,0,0;b0,0,0,0;w0,0,1;n0,1,1;s0,2,1;h0,3,1;v1,0,1;w1,1,1; = 6";
    private static final String FIVE = "read a0,0,0,0;b0,0,0,0;w0,0,1;n0,1,1;s0,2,1;h0,3,1;v1,0,1; = 5";
    private static final String NO_PASS = "STATE: no PASS (ahead of BAD)";

    public static void main(String[] args) {
        setUpBad();
        setUpState();
        setUpFull();
        take();
        turn();
        gust();
        hoursBad();
        hoursFull();
        rising();
        breaking();
        undoNone();
        undoMany();
        undoEach();
        cell();
        halves();
        rims();
        wind();
        Check.end();
    }

    private static void setUpBad() {
        Check.edge("promise 9", NO_PASS, Check.beyond("setUp # 1 1", 0, 15, "STATE"),
                Check.beyond("setUp 0 # 1", 1, 5, "STATE"), Check.beyond("setUp 0 1 #", 0, 99, "STATE"));
        Check.edge("promise 9", "BAD: no such cell", STILL, Check.beyond("setUp # 1 1", 0, 15, "BAD"), "count 1 = 0",
                "setUp 0 1 1 = 1", "setUp 15 1 1 = 2", "kind 0 = 1", "kind 15 = 1");
        Check.edge("promise 9", "BAD: KIND (1 to 5)", STILL, Check.beyond("setUp 0 # 1", 1, 5, "BAD"), "count 1 = 0",
                Check.each(1, 5, "setUp # # 1 = #"), Check.each(1, 5, "kind # = #"));
        Check.edge("promise 9", "BAD: HOLDS (0 to 99)", STILL, Check.beyond("setUp 0 1 #", 0, 99, "BAD"), "count 1 = 0",
                "setUp 0 1 0 = 1", "setUp 1 1 99 = 2", "cell 0 2 = 0", "cell 1 2 = 99");
    }

    private static void setUpState() {
        Check.edge("promise 9", "STATE: there is one", STILL, "setUp 5 1 7 = 1", "setUp 5 1 7 = STATE",
                "setUp 5 2 8 = STATE", "kind 5 = 1", "cell 5 2 = 7", "count 5 = 1", "count 1 = 1");
        Check.edge("promise 9", "BAD ahead of STATE: there is one", STILL, "setUp 5 1 7 = 1", "setUp 5 6 7 = BAD",
                "setUp 5 0 7 = BAD", "setUp 5 1 100 = BAD");
        Check.edge("promise 9", "on a cell without one", STILL, "setUp 5 1 7 = 1", "take 5 = 0", "setUp 5 4 8 = 1",
                "kind 5 = 4", "cell 5 2 = 8");
        Check.edge("promise 9", "a WORK is SET UP, shut", STILL, "setUp 5 3 7 = 1", "cell 5 3 = 0", "turn 5 = 1",
                "take 5 = 0", "setUp 5 3 7 = 1", "cell 5 3 = 0");
    }

    private static void setUpFull() {
        Check.edge("promise 9", "FULL: there are 6", SIX, Check.each(6, 15, "setUp # 1 1 = FULL"), "count 1 = 6",
                "count 5 = 0");
        Check.edge("promise 9", "FULL: there are 6, not 5", FIVE, "setUp 15 5 1 = 6", "setUp 14 5 1 = FULL");
        Check.edge("promise 9", "FULL: of those that were SET UP", STILL, Check.each(1, 6, "setUp # 2 1 = #"),
                "setUp 7 2 1 = FULL", "count 5 = 6", "take 3 = 5", "setUp 7 2 1 = 6", "setUp 3 2 1 = FULL", "undo = 7",
                "setUp 3 2 1 = 6");
        Check.edge("promise 9", "FULL: one that broke makes room", "read a2,0,0,0;b0,0,0,0;w0,0,1;n0,1,1;s0,2,1;h0,3,1;"
                + "v2,3,1;w2,1,1; = 6", "setUp 15 1 1 = FULL", "hours 1 = 5", "setUp 15 1 1 = 6");
        Check.edge("promise 9", "BAD, STATE, FULL", SIX, "setUp 16 1 1 = BAD", "setUp 6 6 1 = BAD",
                "setUp 6 1 100 = BAD",
                "setUp 0 1 1 = STATE", "setUp 11 1 1 = FULL");
    }

    private static void take() {
        Check.edge("promise 10", NO_PASS, Check.beyond("take #", 0, 15, "STATE"), "take 0 = STATE");
        Check.edge("promise 10", "BAD", SIX, Check.beyond("take #", 0, 15, "BAD"), "count 1 = 6", "count 5 = 0");
        Check.edge("promise 10", "STATE: there is none", FIVE, Check.each(5, 15, "take # = STATE"), "count 5 = 0",
                "take 4 = 4", "take 4 = STATE", "take 3 = 3", "take 2 = 2", "take 1 = 1", "take 0 = 0",
                "take 0 = STATE",
                "count 5 = 5");
        Check.edge("promise 10", "STATE: there is none, it broke", "read a2,0,0,0;b0,0,0,0;w0,0,1; = 1", "hours 1 = 0",
                "take 0 = STATE");
        Check.edge("promise 10", "cells 0 and 15", STILL, "setUp 0 1 1 = 1", "setUp 15 1 1 = 2", "take 15 = 1",
                "take 0 = 0");
    }

    private static void turn() {
        Check.edge("promise 11", NO_PASS, Check.beyond("turn #", 0, 15, "STATE"), "turn 0 = STATE");
        Check.edge("promise 11", "BAD", SIX, Check.beyond("turn #", 0, 15, "BAD"), "count 5 = 0");
        Check.edge("promise 11", "STATE: there is none (a shutter)", SIX, "turn 0 = STATE", "turn 1 = STATE",
                "turn 3 = STATE", "turn 4 = STATE", Check.each(5, 15, "turn # = STATE"), "count 5 = 0", "turn 2 = 1",
                "take 2 = 5", "turn 2 = STATE");
        Check.edge("promise 11", "1 (OPEN then), 0", STILL, "setUp 0 3 1 = 1", "setUp 15 3 1 = 2", "turn 0 = 1",
                "cell 0 3 = 1", "cell 15 3 = 0", "turn 15 = 1", "turn 0 = 0", "cell 0 3 = 0", "cell 15 3 = 1",
                "turn 0 = 1");
        Check.edge("promise 11", "STATE: there is none, it broke", "read a2,0,0,0;b0,0,0,0;s0,0,1; = 1", "hours 1 = 0",
                "turn 0 = STATE");
    }

    private static void gust() {
        Check.edge("promise 12", NO_PASS, Check.beyond("gust # 0", 0, 3, "STATE"), Check.beyond("gust 0 #",
                0, 31, "STATE"));
        Check.edge("promise 12", "BAD: a row of the pass, 0 to 3", STILL, Check.beyond("gust # 5", 0, 3, "BAD"),
                "count 5 = 0", "gust 0 5 = 0", "gust 3 6 = 0", "wind 0 0 = 5", "wind 3 0 = 6", "wind 1 0 = 0");
        Check.edge("promise 12", "BAD: (0 to 31)", STILL, Check.beyond("gust 1 #", 0, 31, "BAD"), "count 5 = 0",
                "wind 1 0 = 0", "gust 1 31 = 0", "gust 1 0 = 31", "wind 1 0 = 0");
        Check.edge("promise 12", "GUST alone is another", "read a1,2,3,4;b5,6,7,8; = 0", "gust 2 0 = 3", "wind 2 0 = 0",
                "wind 2 1 = 7", "wind 1 0 = 2", "wind 3 0 = 4");
    }

    private static void hoursBad() {
        Check.edge("promise 13", NO_PASS, Check.beyond("hours #", 1, 20, "STATE"), "hours 0 = STATE");
        Check.edge("promise 13", "n HOURS (1 to 20)", STILL, Check.beyond("hours #", 1, 20, "BAD"), "count 2 = 0",
                "count 5 = 0", "hours 1 = 0", "count 2 = 1", "hours 20 = 0", "count 2 = 21");
        Check.edge("promise 13", "an ACT each", STILL, "hours 20 = 0", "count 5 = 20", "undo = 19", "count 2 = 19",
                "hours 1 = 0", "count 5 = 20");
    }

    private static void hoursFull() {
        Check.edge("promise 13", "FULL: beyond HOUR 999", "read a0,0,0,0;b1,0,0,0; = 0",
                Check.times(49, "hours 20 = 0"),
                "count 2 = 980", "hours 20 = FULL", "count 2 = 980", "count 5 = 24", "wind 0 0 = 20", "hours 19 = 0",
                "count 2 = 999", "hours 1 = FULL", "hours 20 = FULL", "count 2 = 999", "wind 0 0 = 7");
        Check.edge("promise 13", "FULL: an HOUR less makes room", STILL, Check.times(49, "hours 20 = 0"),
                "hours 19 = 0",
                "undo = 23", "count 2 = 998", "hours 2 = FULL", "hours 1 = 0", "count 2 = 999");
        Check.edge("promise 13", "BAD ahead of FULL", STILL, Check.times(49, "hours 20 = 0"), "hours 19 = 0",
                Check.beyond("hours #", 1, 20, "BAD"));
        Check.edge("promise 13", "FULL: no work breaks, and ACTS go on", STILL, Check.times(49, "hours 20 = 0"),
                "hours 19 = 0", "setUp 0 1 1 = 1", "gust 0 9 = 0", "hours 1 = FULL", "kind 0 = 1", "count 5 = 24",
                "felt 0 1 = 9", "felt 4 1 = 9", "read a0,0,0,0;b0,0,0,0; = 0", "hours 20 = 0", "count 2 = 20");
    }

    private static void rising() {
        for (int gust = 0; gust <= 31; gust++) {
            for (int rise = 0; rise <= 31; rise++) {
                int next = gust + rise >= 32 ? gust + rise - 32 : gust + rise;
                Check.edge("promise 13", "GUST and RISE, less 32, if that is 32 or more",
                        "read a" + gust + ",0,0," + rise + ";b" + rise + ",0,0," + gust + "; = 0", "hours 1 = 0",
                        "wind 0 0 = " + next, "wind 3 0 = " + next, "wind 0 1 = " + rise, "wind 1 0 = 0");
            }
        }
    }

    private static void breaking() {
        for (int kind = 1; kind <= 5; kind++) {
            String setUp = "setUp 1 " + kind;
            Check.edge("promise 13", "WORKS where more is FELT than they HOLD", "read a0,10,0,0;b0,0,0,0; = 0",
                    setUp + " 10 = 1", "hours 1 = 1", "take 1 = 0", setUp + " 9 = 1", "hours 1 = 0", "kind 1 = NONE",
                    setUp + " 11 = 1", "hours 20 = 1");
            Check.edge("promise 13", "more than they HOLD: 0", "read a0,0,0,0;b0,0,0,0; = 0", setUp + " 0 = 1",
                    "hours 1 = 1", "gust 1 1 = 0", "hours 1 = 0");
        }
        Check.edge("promise 13", "more than they HOLD: 99",
                "read a31,31,31,31;b0,0,0,0;v0,0,99;h0,2,99;h0,3,99;h1,2,99;w2,1,99; = 5", "felt 9 0 = 93",
                "hours 1 = 5",
                "cell 9 0 = 124", "gust 0 6 = 31", "cell 9 0 = 99", "hours 2 = 5", "cell 9 0 = 99", "gust 0 7 = 6",
                "cell 9 0 = 100", "hours 1 = 4", "kind 9 = NONE");
        Check.edge("promise 13", "BREAK at once: by what is FELT ahead of all that break",
                "read a20,0,0,0;b0,0,0,0;w0,0,19;h1,1,9; = 2", "hours 1 = 0");
        Check.edge("promise 13", "BREAK at once: not by what is FELT when one is gone",
                "read a20,0,0,0;b0,0,0,0;h0,0,19;w1,0,19; = 2", "hours 1 = 1", "kind 4 = 1", "hours 1 = 0");
        Check.edge("promise 13", "then the HOUR is 1 more, and GUST: what breaks, breaks by the GUST before",
                "read a9,0,0,0;b1,0,0,0;w0,0,9; = 1", "hours 1 = 1", "wind 0 0 = 10", "hours 1 = 0", "wind 0 0 = 11");
        Check.edge("promise 13", "less 32: a GUST that falls breaks nothing", "read a31,0,0,0;b1,0,0,0;w0,0,31; = 1",
                "hours 20 = 1", "hours 12 = 1", "wind 0 0 = 31", "hours 1 = 1", "take 0 = 0", "setUp 0 1 30 = 1",
                "hours 20 = 1", "hours 11 = 1", "wind 0 0 = 31", "hours 1 = 0");
    }

    private static void undoNone() {
        Check.edge("promise 14", "STATE: none", "undo = STATE", STILL, "undo = STATE", "gust 0 1 = 0", "undo = 0",
                "undo = STATE", "gust 0 1 = 0", STILL, "undo = STATE", "image 0 = 1", "gust 0 1 = 0", "restore 0 = 1",
                "undo = STATE");
        Check.edge("promise 14", "what is refused is no ACT", SIX, "setUp 0 1 1 = STATE", "setUp 6 1 1 = FULL",
                "setUp 16 1 1 = BAD", "take 6 = STATE", "take 16 = BAD", "turn 0 = STATE", "turn 16 = BAD",
                "gust 4 0 = BAD",
                "gust 0 32 = BAD", "hours 0 = BAD", "hours 21 = BAD", "count 5 = 0", "undo = STATE");
    }

    /** GUST of row 1 from one number to another, an ACT each. */
    private static String[] gusts(int from, int to) {
        List<String> lines = new ArrayList<>();
        for (int v = from; v <= to; v++) {
            lines.add("gust 1 " + v + " = " + (v - 1));
        }
        return lines.toArray(new String[0]);
    }

    private static String[] undone(int from) {
        List<String> lines = new ArrayList<>();
        for (int left = from - 1; left >= 0; left--) {
            lines.add("undo = " + left);
        }
        return lines.toArray(new String[0]);
    }

    private static void undoMany() {
        String sentence = "24 at most are kept, of more the oldest is forgotten";
        Check.edge("promise 14", sentence + ": 24", STILL, gusts(1, 24), "count 5 = 24", undone(24), "wind 1 0 = 0",
                "undo = STATE");
        Check.edge("promise 14", sentence + ": 25", STILL, gusts(1, 25), "count 5 = 24", undone(24), "wind 1 0 = 1",
                "undo = STATE");
        Check.edge("promise 14", sentence + ": 23", STILL, gusts(1, 23), "count 5 = 23", undone(23), "wind 1 0 = 0");
        Check.edge("promise 14", sentence + ": 31", STILL, gusts(1, 31), "count 5 = 24", undone(24), "wind 1 0 = 7",
                "undo = STATE");
        Check.edge("promise 14", sentence + ", some undone between", STILL, gusts(1, 24), "undo = 23", "undo = 22",
                "undo = 21", "undo = 20", "undo = 19", gusts(20, 29), "count 5 = 24", undone(24), "wind 1 0 = 5",
                "undo = STATE");
        Check.edge("promise 14", sentence + ", all undone between", STILL, gusts(1, 30), undone(24), "wind 1 0 = 6",
                gusts(7, 31), "count 5 = 24", undone(24), "wind 1 0 = 7", "undo = STATE");
        Check.edge("promise 14", sentence + ": 40 HOURS", STILL, "hours 20 = 0", "hours 20 = 0", "count 5 = 24",
                undone(24),
                "count 2 = 16", "undo = STATE");
        Check.edge("promise 14", "the latest first", STILL, "gust 0 1 = 0", "gust 1 2 = 0", "gust 2 3 = 0", "undo = 2",
                "wind 2 0 = 0", "wind 1 0 = 2", "undo = 1", "wind 1 0 = 0", "wind 0 0 = 1", "undo = 0", "wind 0 0 = 0");
    }

    private static void undoEach() {
        Check.edge("promise 14", "also such by which nothing becomes another", STILL, "gust 0 0 = 0", "count 5 = 1",
                "hours 1 = 0", "count 5 = 2", "gust 3 0 = 0", "count 5 = 3", "undo = 2", "undo = 1", "undo = 0",
                "undo = STATE");
        Check.edge("promise 14", "each can be undone: SET UP", SIX, "take 0 = 5", "setUp 15 3 9 = 6", "undo = 1",
                "kind 15 = NONE", "count 1 = 5", "setUp 14 1 1 = 6");
        Check.edge("promise 14", "each can be undone: TAKEN", "read a0,0,0,0;b0,0,0,0;s1,1,47; = 1", "turn 5 = 1",
                "take 5 = 0", "undo = 1", "kind 5 = 3", "cell 5 2 = 47", "cell 5 3 = 1", "count 1 = 1");
        Check.edge("promise 14", "each can be undone: TURNED", "read a0,0,0,0;b0,0,0,0;s1,1,47; = 1", "turn 5 = 1",
                "turn 5 = 0", "undo = 1", "cell 5 3 = 1", "undo = 0", "cell 5 3 = 0");
        Check.edge("promise 14", "each can be undone: an HOUR",
                "read a31,5,0,0;b2,31,0,0;s0,0,30;v1,1,4;h3,3,9; = 3", "turn 0 = 1", "hours 1 = 1", "count 2 = 1",
                "wind 0 0 = 1", "wind 1 0 = 4", "undo = 1", "count 2 = 0", "wind 0 0 = 31", "wind 1 0 = 5",
                "kind 0 = 3",
                "cell 0 2 = 30", "cell 0 3 = 1", "kind 5 = 5", "cell 5 2 = 4", "count 1 = 3", "cell 4 0 = 31");
        Check.edge("promise 14", "nothing else becomes another", "read a1,2,3,4;b5,6,7,8; = 0", "image 0 = 1",
                "row 0 0 3 = 3", "text a3", "gust 0 9 = 1", "image 1 = 1", "undo = 0", "count 0 = 1", "count 6 = 2",
                "restore 1 = 1", "wind 0 0 = 9", "restore 0 = 1", "wind 0 0 = 1");
    }

    private static void cell() {
        Check.edge("promise 15", NO_PASS, Check.beyond("cell # 0", 0, 15, "STATE"), Check.beyond("cell 0 #",
                0, 3, "STATE"));
        Check.edge("promise 15", "BAD", SIX, Check.beyond("cell # 0", 0, 15, "BAD"), Check.beyond("cell 0 #",
                0, 3, "BAD"),
                Check.beyond("cell # 1", 0, 15, "BAD"), Check.beyond("cell 15 #", 0, 3, "BAD"));
        Check.edge("promise 15", "NONE: there is no WORK (1 to 3)", STILL, Check.each(0, 15, "cell # 1 = NONE"),
                Check.each(0, 15, "cell # 2 = NONE"), Check.each(0, 15, "cell # 3 = NONE"),
                Check.each(0, 15, "cell # 0 = 0"));
        Check.edge("promise 15", "1 the KIND of its WORK, 2 what that HOLDS",
                STILL, Check.each(1, 5, "setUp # # 0 = #"),
                "setUp 15 1 99 = 6", Check.each(1, 5, "cell # 1 = #"), Check.each(1, 5, "cell # 2 = 0"),
                "cell 15 1 = 1",
                "cell 15 2 = 99");
        Check.edge("promise 15", "whether that is OPEN (1, 0; 0 of all but shutters)", SIX, "turn 2 = 1",
                "cell 2 3 = 1",
                "cell 0 3 = 0", "cell 1 3 = 0", "cell 3 3 = 0", "cell 4 3 = 0", "cell 5 3 = 0", "turn 2 = 0",
                "cell 2 3 = 0");
        Check.edge("promise 15", "NONE: it broke", "read a2,0,0,0;b0,0,0,0;s0,0,1; = 1", "turn 0 = 1", "hours 1 = 0",
                "cell 0 1 = NONE", "cell 0 2 = NONE", "cell 0 3 = NONE", "cell 0 0 = 2");
        Check.edge("promise 15", "Into cells of X 0 comes GUST of row Y; all goes on", "read a31,0,1,30;b0,0,0,0; = 0",
                "cell 0 0 = 31", "cell 1 0 = 0", "cell 2 0 = 1", "cell 3 0 = 30", "cell 12 0 = 31", "cell 13 0 = 0",
                "cell 14 0 = 1", "cell 15 0 = 30");
    }

    private static void halves() {
        for (int v = 0; v <= 31; v++) {
            String split = "read a0," + v + ",0,0;b0,0,0,0; = 0";
            int half = v / 2;
            int left = v - half;
            Check.edge("promise 15", "a half (cut) goes to the north, the rest to the south", split, "setUp 1 1 99 = 1",
                    "cell 4 0 = " + half, "cell 5 0 = 0", "cell 6 0 = " + left, "cell 1 0 = " + v);
            Check.edge("promise 15", "a net lets a half (cut) on, what is left goes as by a wall", split,
                    "setUp 1 2 99 = 1",
                "cell 4 0 = " + left / 2, "cell 5 0 = " + half, "cell 6 0 = " + (left - left / 2));
            Check.edge("promise 15", "a shutter as a wall, but lets all on, if it is OPEN", split, "setUp 1 3 99 = 1",
                    "cell 4 0 = " + half, "cell 5 0 = 0", "cell 6 0 = " + left, "turn 1 = 1", "cell 4 0 = 0",
                    "cell 5 0 = " + v, "cell 6 0 = 0");
            Check.edge("promise 15", "a hand sends all to the north", split, "setUp 1 4 99 = 1", "cell 4 0 = " + v,
                    "cell 5 0 = 0", "cell 6 0 = 0", "hours 1 = 1", "cell 4 0 = " + v, "cell 6 0 = 0");
            Check.edge("promise 15", "a vane so, but to the south in odd HOURS", split, "setUp 1 5 99 = 1",
                    "cell 4 0 = " + v, "cell 5 0 = 0", "cell 6 0 = 0", "hours 1 = 1", "cell 4 0 = 0", "cell 5 0 = 0",
                    "cell 6 0 = " + v, "hours 1 = 1", "cell 4 0 = " + v, "cell 6 0 = 0");
        }
    }

    /** A work on row 0, and one on row 3, in each column: what of 7 has no row to which it goes. */
    private static void rims() {
        int[] northern = {0, 3, 2, 3, 7, 7};
        int[] southern = {0, 4, 2, 4, 0, 0};
        for (int x = 0; x <= 3; x++) {
            for (int kind = 1; kind <= 5; kind++) {
                Check.edge("promise 18", "what has no such row is LOST, X " + x, "read a7,0,0,0;b0,0,0,0; = 0",
                        "setUp " + 4 * x + " " + kind + " 9 = 1", "count 3 = " + northern[kind],
                        "count 4 = " + (7 - northern[kind]), "lost 0 = " + northern[kind],
                        "lost 1 = " + (kind == 5 ? 0 : northern[kind]));
                Check.edge("promise 18", "what has no such row is LOST, X " + x, "read a0,0,0,7;b0,0,0,0; = 0",
                        "setUp " + (4 * x + 3) + " " + kind + " 9 = 1", "count 3 = " + southern[kind],
                        "count 4 = " + (7 - southern[kind]), "lost 0 = " + southern[kind],
                        "lost 1 = " + (kind == 5 ? 7 : southern[kind]));
            }
        }
        int[][] first = {{0, 4}, {3, 2}, {0, 4}, {0, 0}, {0, 0}};
        int[][] last = {{3, 0}, {2, 3}, {3, 0}, {7, 0}, {7, 0}};
        for (int kind = 1; kind <= 5; kind++) {
            Check.edge("promise 19", "what goes behind X 3 LEAVES by the row to which it goes",
                "read a7,0,0,0;b0,0,0,0; = 0",
                    "setUp 12 " + kind + " 9 = 1", "leaves 0 0 = " + first[kind - 1][0], "leaves 1 0 = "
                    + first[kind - 1][1], "leaves 2 0 = 0", "leaves 3 0 = 0", "leaves 1 1 = "
                    + (kind == 5 ? 7 : first[kind - 1][1]));
            Check.edge("promise 19", "what goes behind X 3 LEAVES by the row to which it goes",
                "read a0,0,0,7;b0,0,0,0; = 0",
                    "setUp 15 " + kind + " 9 = 1", "leaves 0 0 = 0", "leaves 1 0 = 0",
                "leaves 2 0 = " + last[kind - 1][0],
                    "leaves 3 0 = " + last[kind - 1][1], "leaves 2 1 = " + (kind == 5 ? 0 : last[kind - 1][0]));
        }
    }

    private static void wind() {
        Check.edge("promise 16", NO_PASS, Check.beyond("wind # 0", 0, 3, "STATE"), Check.beyond("wind 0 #",
                0, 1, "STATE"));
        Check.edge("promise 16", "BAD", "read a1,2,3,4;b5,6,7,8; = 0", Check.beyond("wind # 0", 0, 3, "BAD"),
                Check.beyond("wind # 1", 0, 3, "BAD"), Check.beyond("wind 0 #", 0, 1, "BAD"), "wind 0 0 = 1",
                "wind 3 0 = 4", "wind 0 1 = 5", "wind 3 1 = 8");
    }
}
