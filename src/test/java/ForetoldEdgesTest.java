/** The boundary cases that the document names of what is foretold, and of IMAGES: promises 17 to 27. */
public final class ForetoldEdgesTest {
    private static final String STILL = "read a0,0,0,0;b0,0,0,0; = 0";
    private static final String RISING = "read a0,31,16,5;b1,1,16,0; = 0";
    private static final String SIX = "read a8,0,0,8;b0,0,0,0;n0,0,99;h0,1,1;h0,2,1;w0,3,99;h1,2,99;h2,2,99; = 6";
    private static final String NO_PASS = "STATE: no PASS (ahead of BAD)";
    private static final int LEAST = Integer.MIN_VALUE, MOST = Integer.MAX_VALUE;

    public static void main(String[] args) {
        refusedWithoutPass();
        felt();
        lostAndLeaves();
        breaks();
        breaksWhen();
        standsRefused();
        stands();
        wallsRefused();
        wallsHowMany();
        wallsWhere();
        hiddenRefused();
        hidden();
        most();
        lotsRefused();
        lots();
        image();
        restore();
        Check.end();
    }

    private static void refusedWithoutPass() {
        Check.edge("promise 17", NO_PASS, Check.beyond("felt # 0", 0, 15, "STATE"), Check.beyond("felt 0 #",
                0, 40, "STATE"));
        Check.edge("promise 18", NO_PASS, Check.beyond("lost #", 0, 40, "STATE"), "lost 0 = STATE");
        Check.edge("promise 19", NO_PASS, Check.beyond("leaves # 0", 0, 3, "STATE"),
                Check.beyond("leaves 0 #", 0, 40, "STATE"));
        Check.edge("promise 20", NO_PASS, Check.beyond("breaks #", 0, 1, "STATE"), "breaks 0 = STATE");
        Check.edge("promise 21", NO_PASS, Check.beyond("stands # 0", 0, 7, "STATE"), "stands 0 0 = STATE",
                "row 0 0 3 = 3", "stands 0 0 = STATE", "stands 0 -1 = STATE", "status = 0");
        Check.edge("promise 22", NO_PASS, Check.beyond("walls # 0 0", 0, 15, "STATE"),
                Check.beyond("walls 0 # 0", 0, 99, "STATE"), Check.beyond("walls 0 0 #", -1, 1, "STATE"));
        Check.edge("promise 23", NO_PASS, Check.beyond("hidden # 0 0 0", 1, 5, "STATE"),
                Check.beyond("hidden 1 # 0 0", 0, 3, "STATE"), Check.beyond("hidden 1 0 # 0", 0, 7, "STATE"),
                "hidden 1 0 0 0 = STATE", "row 0 0 3 = 3", "hidden 1 0 0 0 = STATE", "status = 0");
        Check.edge("promise 24", NO_PASS, Check.beyond("most # 0", 0, 3, "STATE"), Check.beyond("most 0 #",
                0, 1, "STATE"));
        Check.edge("promise 25", NO_PASS, Check.beyond("lots # 0 0 0", 0, 15, "STATE"),
                Check.beyond("lots 0 # 0 0", 0, 99, "STATE"), Check.beyond("lots 0 0 # 0", 0, 10, "STATE"),
                Check.beyond("lots 0 0 0 #", 0, 1, "STATE"));
    }

    private static void felt() {
        Check.edge("promise 17", "BAD", RISING, Check.beyond("felt # 0", 0, 15, "BAD"), Check.beyond("felt 0 #",
                0, 40, "BAD"),
                Check.beyond("felt 15 #", 0, 40, "BAD"), "felt 15 0 = 5", "felt 15 40 = 5");
        Check.edge("promise 17", "d HOURS from now (0 to 40): 0 is now", RISING, Check.each(0, 31, "felt 0 # = #"),
                "felt 0 32 = 0", "felt 0 39 = 7", "felt 0 40 = 8", "felt 1 0 = 31", "felt 1 1 = 0", "felt 1 40 = 7",
                "felt 2 0 = 16", "felt 2 1 = 0", "felt 2 2 = 16", "hours 1 = 0", "felt 0 0 = 1", "felt 0 40 = 9");
        Check.edge("promise 17", "nothing changes", "read a9,0,0,0;b1,0,0,0;s0,0,9; = 1", "turn 0 = 1",
                "felt 0 40 = 17",
                "felt 4 0 = 9", "cell 0 3 = 1", "count 2 = 0", "count 1 = 1", "wind 0 0 = 9", "count 5 = 1",
                "cell 0 0 = 9");
        Check.edge("promise 17", "WORKS break by then, behind the HOUR in which it is too much",
                "read a9,0,0,0;b1,0,0,0;h0,0,9; = 1", "felt 4 0 = 0", "felt 4 1 = 0", "felt 4 2 = 11",
                "felt 12 40 = 17");
    }

    private static void lostAndLeaves() {
        Check.edge("promise 18", "BAD", RISING, Check.beyond("lost #", 0, 40, "BAD"), "lost 0 = 0", "lost 40 = 0");
        Check.edge("promise 18", "LOST: 0 to 40 HOURS from now", "read a0,0,0,0;b1,0,0,0;h0,0,31; = 1", "lost 0 = 0",
                "lost 1 = 1", "lost 31 = 31", "lost 32 = 0", "lost 40 = 8", "count 3 = 0");
        Check.edge("promise 18", "LOST: until the WORK breaks", "read a0,0,0,0;b1,0,0,0;h0,0,30; = 1", "lost 30 = 30",
                "lost 31 = 31", "lost 32 = 0", "lost 33 = 0", "lost 40 = 0");
        Check.edge("promise 19", "BAD", RISING, Check.beyond("leaves # 0", 0, 3, "BAD"),
                Check.beyond("leaves 0 #", 0, 40, "BAD"), Check.beyond("leaves 3 #", 0, 40, "BAD"), "leaves 0 40 = 8",
                "leaves 3 0 = 5", "leaves 3 40 = 5", "leaves 1 1 = 0", "leaves 2 40 = 16");
    }

    private static void breaks() {
        Check.edge("promise 20", "BAD", RISING, Check.beyond("breaks #", 0, 1, "BAD"));
        Check.edge("promise 20", "NONE: without WORKS", RISING, "breaks 0 = NONE", "breaks 1 = NONE");
        Check.edge("promise 20", "NONE: all hold", "read a31,31,31,31;b0,0,0,0;w0,0,31;w0,3,31; = 2", "breaks 0 = NONE",
                "breaks 1 = NONE", "take 0 = 1", "setUp 0 1 30 = 2", "breaks 0 = 1", "breaks 1 = 0");
        Check.edge("promise 20", "of several the least", "read a9,9,9,9;b0,0,0,0;w3,3,0;w3,1,0;w3,2,0; = 3",
                "breaks 0 = 1",
                "breaks 1 = 13", "take 13 = 2", "breaks 1 = 14", "take 14 = 1", "breaks 1 = 15");
        Check.edge("promise 20", "the first WORK: not the least of all that ever break",
                "read a0,0,0,0;b1,2,0,0;w0,0,9;w0,1,10;w3,3,0; = 3", "breaks 0 = 7", "breaks 1 = 1", "take 1 = 2",
                "breaks 0 = 11", "breaks 1 = 0");
    }

    /** GUST is 0, 1, 2 and so on: a wall that holds h breaks behind h and 2 HOURS. */
    private static void breaksWhen() {
        for (int holds = 0; holds <= 30; holds++) {
            Check.edge("promise 20", "behind how many HOURS", "read a0,0,0,0;b1,0,0,0;w0,0," + holds + "; = 1",
                    "breaks 0 = " + (holds + 2), "breaks 1 = 0", "count 1 = 1", "count 2 = 0");
        }
        Check.edge("promise 20", "behind how many HOURS (1 to 40): 1", "read a1,0,0,0;b0,0,0,0;w0,0,0; = 1",
                "breaks 0 = 1",
                "breaks 1 = 0", "hours 1 = 0", "breaks 0 = NONE", "undo = 0", "breaks 0 = 1");
        Check.edge("promise 20", "behind how many HOURS (1 to 40): never", "read a0,0,0,0;b1,0,0,0;w0,0,31; = 1",
                "breaks 0 = NONE", "breaks 1 = NONE", "hours 20 = 1", "hours 20 = 1");
        Check.edge("promise 20", "behind as many HOURS it does", "read a0,0,0,0;b1,0,0,0;w0,0,18;w3,3,9; = 2",
                "breaks 0 = 20",
                "hours 19 = 2", "breaks 0 = 1", "hours 1 = 1", "kind 0 = NONE", "kind 15 = 1");
    }

    private static void standsRefused() {
        Check.edge("promise 21", "BAD: ROW", STILL, "row 0 0 16 = 16", "row 7 0 16 = 16",
                Check.beyond("stands # 0", 0, 7, "BAD"), "stands 0 0 = 40", "stands 7 0 = 40", "stands 8 -1 = BAD");
        Check.edge("promise 21", "NULL, ahead of PLACE", STILL, "stands 0 0 = NULL", "status = 1", "stands 0 -1 = NULL",
                "stands 7 40 = NULL");
        Check.edge("promise 21", "PLACE: 16 ITEMS of a ROW from i on", STILL, "row 0 0 16 = 16", "stands 0 0 = 40",
                "status = 0", Check.beyond("stands 0 #", 0, 0, "PLACE"), "status = 2", "row 0 0 15 = 15",
                "stands 0 0 = PLACE", "row 0 0 40 = 40", "stands 0 24 = 40", Check.beyond("stands 0 #", 0, 24, "PLACE"),
                "row 0 0 0 = 0", "stands 0 0 = PLACE", "row 0 0 17 = 17", "stands 0 1 = 40", "stands 0 2 = PLACE");
    }

    private static void stands() {
        Check.edge("promise 21", "40, if ever so", "read a0,0,0,0;b0,0,0,0;v0,0,0;w1,1,0; = 2", "row 0 1 40 = 40",
                "stands 0 0 = 40", "stands 0 24 = 40");
        Check.edge("promise 21", "now is the first of them; 0", "read a1,0,0,0;b31,0,0,0; = 0", "row 0 1 16 = 16",
                "stands 0 0 = 0", "hours 1 = 0", "stands 0 0 = 1", "hours 1 = 0", "stands 0 0 = 0");
        String[] ones = {"set 0 0 8 = 8", "set 0 1 8 = 8", "set 0 3 8 = 8", "set 0 4 8 = 8", "set 0 6 8 = 8",
            "copy 0 4 0 8 8 = 8", "copy 0 4 0 12 4 = 4"};
        // The hand breaks as the vanes turn to the south, so that it is felt once more as before.
        Check.edge("promise 21", "for how many HOURS from now on: 2",
                "read a8,8,0,8;b0,0,0,0;h0,0,7;v0,1,9;v0,3,9; = 3",
                "row 0 0 16 = 16", ones, "stands 0 0 = 2", "hours 1 = 2", "stands 0 0 = 1", "hours 1 = 2",
                "stands 0 0 = 0");
        Check.edge("promise 21", "without a gap", "read a0,5,0,0;b0,0,0,0;v2,1,9; = 1", "row 0 0 16 = 16",
                "set 0 1 5 = 5",
                "set 0 5 5 = 5", "set 0 9 5 = 5", "set 0 12 5 = 5", "stands 0 0 = 1", "hours 2 = 1", "stands 0 0 = 1",
                "hours 1 = 1", "stands 0 0 = 0", "take 9 = 0", "stands 0 0 = 0", "set 0 12 0 = 0", "set 0 13 5 = 5",
                "stands 0 0 = 40");
        Check.edge("promise 21", "in all 16 cells: an ITEM of more bits is another", "read a5,0,0,0;b0,0,0,0; = 0",
                "row 0 2 16 = 16", "set 0 0 5 = 5", "set 0 4 5 = 5", "set 0 8 5 = 5", "set 0 12 5 = 5",
                "stands 0 0 = 40",
                "set 0 0 261 = 261", "stands 0 0 = 0", "set 0 0 -5 = -5", "stands 0 0 = 0");
        Check.edge("promise 21", "what is FELT at most (124) fits a byte",
                "read a31,31,31,31;b0,0,0,0;v0,0,99;h0,2,99;h0,3,99;h1,2,99;h3,1,99; = 5", "hours 1 = 5",
                "row 0 0 16 = 16", "set 0 0 31 = 31", "set 0 1 31 = 31", "set 0 2 31 = 31", "set 0 3 31 = 31",
                "set 0 5 93 = 93", "set 0 6 31 = 31", "set 0 9 124 = 124", "set 0 13 124 = 124", "stands 0 0 = 1");
    }

    private static void wallsRefused() {
        Check.edge("promise 22", "BAD", STILL, Check.beyond("walls # 0 0", 0, 15, "BAD"),
                Check.beyond("walls 0 # 0", 0, 99, "BAD"), Check.beyond("walls 0 0 #", -1, 1, "BAD"));
        Check.edge("promise 22", "v (0 to 99)", "read a31,31,31,31;b0,0,0,0;v0,0,99;h0,2,99;h0,3,99;h1,2,99; = 4",
                "walls 9 93 -1 = 0", "walls 9 99 -1 = NONE", "walls 9 0 -1 = 0", "take 0 = 3", "walls 9 99 -1 = 1",
                "walls 9 99 0 = 0", "walls 9 99 1 = NONE", "undo = 0", "hours 1 = 4", "walls 9 99 -1 = 0",
                "walls 9 100 -1 = BAD", "walls 9 -1 -1 = BAD");
    }

    private static void wallsHowMany() {
        Check.edge("promise 22", "v, or more: none is needed", "read a8,0,0,0;b0,0,0,0; = 0", "walls 12 8 -1 = 0",
                "walls 12 7 -1 = 0", "walls 12 8 0 = NONE", "walls 12 8 1 = NONE", "walls 12 9 -1 = NONE");
        Check.edge("promise 22", "v is 0: none is needed anywhere", STILL, Check.each(0, 15, "walls # 0 -1 = 0"),
                Check.each(0, 15, "walls # 0 0 = NONE"), Check.each(0, 15, "walls # 0 1 = NONE"),
                Check.each(0, 15, "walls # 1 -1 = NONE"));
        Check.edge("promise 22", "v, or more: one", "read a9,0,0,0;b0,0,0,0; = 0", "walls 13 5 -1 = 1",
                "walls 13 4 -1 = 1",
                "walls 13 6 -1 = NONE", "walls 13 5 0 = 0", "walls 13 5 1 = NONE");
        Check.edge("promise 22", "v, or more: two", "read a8,0,0,0;b0,0,0,0; = 0", "walls 14 2 -1 = 2",
                "walls 14 1 -1 = 2",
                "walls 14 3 -1 = NONE", "walls 14 3 0 = NONE", "walls 14 3 1 = NONE");
        // Three would do: 16 on cell 0, 8 on cell 5, 4 on cell 10, 2 on cell 15.
        Check.edge("promise 22", "the fewest (2 at most)", "read a16,0,0,0;b0,0,0,0; = 0", "walls 15 1 -1 = NONE",
                "walls 15 1 0 = NONE", "walls 15 1 1 = NONE", "setUp 0 1 99 = 1", "walls 15 2 -1 = 2",
                "walls 15 2 0 = 5",
                "walls 15 2 1 = 10", "setUp 5 1 99 = 2", "walls 15 2 -1 = 1", "walls 15 2 0 = 10",
                "walls 15 2 1 = NONE",
                "setUp 10 1 99 = 3", "walls 15 2 -1 = 0", "walls 15 3 -1 = NONE");
        Check.edge("promise 22", "into cells of X 0 no wall sends more", "read a31,31,31,31;b0,0,0,0; = 0",
                Check.each(0, 3, "walls # 31 -1 = 0"), Check.each(0, 3, "walls # 32 -1 = NONE"));
    }

    private static void wallsWhere() {
        Check.edge("promise 22", "the k-th cell, the lesser first", "read a0,0,0,16;b0,0,0,0; = 0", "walls 13 4 -1 = 2",
                "walls 13 4 0 = 3", "walls 13 4 1 = 6");
        Check.edge("promise 22", "of several rows the first: one", "read a0,8,0,0;b0,0,0,0; = 0", "walls 12 4 0 = 1",
                "setUp 1 3 99 = 1", "turn 1 = 1", "walls 12 4 0 = 5", "setUp 5 3 99 = 2", "turn 5 = 1",
                "walls 12 4 0 = 9",
                "setUp 9 3 99 = 3", "turn 9 = 1", "walls 12 4 0 = NONE", "turn 9 = 0", "walls 12 4 -1 = 0");
        Check.edge("promise 22", "the k-th cell, the lesser first: cells with WORKS are passed over",
                "read a8,8,0,0;b0,0,0,0; = 0",
                "setUp 0 4 99 = 1", "walls 4 4 -1 = 1", "walls 4 4 0 = 1", "walls 6 4 0 = 1", "setUp 2 2 99 = 2",
                "walls 8 4 -1 = 1", "gust 0 0 = 8", "gust 2 8 = 0", "walls 8 4 0 = 1", "take 2 = 1",
                "walls 11 6 -1 = 2",
                "walls 11 6 0 = 1", "walls 11 6 1 = 6", "walls 7 4 -1 = 1", "walls 7 4 0 = 2", "gust 3 8 = 0",
                "walls 6 16 -1 = 2", "walls 6 16 0 = 1", "walls 6 16 1 = 3");
        // 4 come by the wall on 3 and the hand on 10, 4 more by a wall on 4 (or, later, on 8).
        Check.edge("promise 22", "the k-th cell, the lesser first: two that follow one another",
                "read a0,8,0,8;b0,0,0,0;h0,1,99;h2,2,99; = 2", "walls 13 8 -1 = 2", "walls 13 8 0 = 3",
                "walls 13 8 1 = 4");
        // Of row 0 a half goes to row 1, of row 2 as much: 0 and 2 is the first of nine.
        Check.edge("promise 22", "of several rows the first: two", "read a8,0,8,0;b0,0,0,0; = 0", "walls 13 8 -1 = 2",
                "walls 13 8 0 = 0", "walls 13 8 1 = 2", "setUp 2 3 99 = 1", "turn 2 = 1", "walls 13 8 0 = 0",
                "walls 13 8 1 = 6", "setUp 0 3 99 = 2", "turn 0 = 1", "walls 13 8 0 = 4", "walls 13 8 1 = 6",
                "setUp 4 3 99 = 3", "turn 4 = 1", "walls 13 8 0 = 6", "walls 13 8 1 = 8", "setUp 6 3 99 = 4",
                "turn 6 = 1",
                "walls 13 8 0 = 8", "walls 13 8 1 = 10", "setUp 10 3 99 = 5", "walls 13 8 -1 = 1", "walls 13 8 0 = 8",
                "turn 10 = 1", "walls 13 8 -1 = NONE");
        Check.edge("promise 22", "there may be more WORKS then", SIX, "setUp 15 1 1 = FULL", "walls 5 2 -1 = 0",
                "walls 13 6 -1 = 0", "walls 13 8 -1 = 1", "walls 13 8 0 = 4", "walls 13 9 -1 = NONE", "count 1 = 6",
                "count 5 = 0");
        Check.edge("promise 22", "there may be more WORKS then: two",
                "read a16,0,0,0;b0,0,0,0;h0,1,1;h0,2,1;h0,3,1;h3,0,1;"
                + "h3,1,1;h3,2,1; = 6", "walls 14 4 -1 = 2", "walls 14 4 0 = 0", "walls 14 4 1 = 5", "count 1 = 6");
        Check.edge("promise 22", "nothing changes", "read a8,0,0,0;b1,0,0,0; = 0", "walls 14 2 1 = 5", "count 1 = 0",
                "count 5 = 0", "felt 14 0 = 0", "cell 0 1 = NONE", "cell 5 1 = NONE", "wind 0 0 = 8");
    }

    private static void hiddenRefused() {
        Check.edge("promise 23", "BAD: KIND (1 to 5), y, ROW", STILL, "row 0 0 4 = 4", "row 7 0 4 = 4",
                Check.beyond("hidden # 0 0 0", 1, 5, "BAD"), Check.beyond("hidden 1 # 0 0", 0, 3, "BAD"),
                Check.beyond("hidden 1 0 # 0", 0, 7, "BAD"), Check.each(1, 5, "hidden # 0 0 0 = 65535"),
                Check.each(0, 3, "hidden 1 # 7 0 = 65535"), "hidden 1 0 8 -1 = BAD", "hidden 6 0 1 0 = BAD");
        Check.edge("promise 23", "NULL, ahead of PLACE", STILL, "hidden 1 0 0 0 = NULL", "status = 1",
                "hidden 1 0 7 -1 = NULL", "hidden 1 0 0 40 = NULL");
        Check.edge("promise 23", "PLACE: 4 ITEMS of a ROW from i on", STILL, "row 0 0 4 = 4", "hidden 1 0 0 0 = 65535",
                "status = 0", Check.beyond("hidden 1 0 0 #", 0, 0, "PLACE"), "status = 2", "row 0 0 3 = 3",
                "hidden 1 0 0 0 = PLACE", "row 0 0 0 = 0", "hidden 1 0 0 0 = PLACE", "row 0 0 40 = 40",
                "hidden 1 0 0 36 = 65535", Check.beyond("hidden 1 0 0 #", 0, 36, "PLACE"));
    }

    private static void hidden() {
        Check.edge("promise 23", "FELT along a row (X 0 to 3): no cell", "read a8,0,0,0;b0,0,0,0; = 0", "row 0 0 4 = 4",
                "hidden 1 0 0 0 = 0", "set 0 0 8 = 8", "set 0 1 8 = 8", "set 0 2 8 = 8", "set 0 3 9 = 9",
                "hidden 1 0 0 0 = 0");
        Check.edge("promise 23", "FELT along a row (X 0 to 3): what leaves is not FELT there",
                "read a8,0,0,0;b0,0,0,0; = 0",
                "row 0 0 4 = 4", "set 0 0 8 = 8", "set 0 1 8 = 8", "set 0 2 8 = 8", "set 0 3 8 = 8",
                "hidden 4 0 0 0 = " + (65535 - 1 - 16 - 256));
        Check.edge("promise 23", "cells (bits): each of X 0 to 2", "read a0,0,8,0;b0,0,0,0; = 0", "row 0 0 4 = 4",
                "hidden 4 1 0 0 = " + (65535 - 4 - 64 - 1024), "set 0 3 8 = 8", "hidden 4 1 0 0 = 1024",
                "set 0 2 8 = 8",
                "hidden 4 1 0 0 = 64", "set 0 1 8 = 8", "hidden 4 1 0 0 = 4", "hidden 1 1 0 0 = 0");
        Check.edge("promise 23", "(shut)", "read a8,0,0,0;b0,0,0,0; = 0", "row 0 0 4 = 4", "set 0 0 8 = 8",
                "hidden 3 0 0 0 = 1", "set 0 1 8 = 8", "set 0 2 8 = 8", "set 0 3 8 = 8", "hidden 3 0 0 0 = 65262");
        Check.edge("promise 23", "cells without WORKS", STILL, "row 0 0 4 = 4", "setUp 0 1 1 = 1",
                "hidden 1 0 0 0 = 65534",
                "setUp 15 2 1 = 2", "hidden 1 0 0 0 = 32766", "setUp 4 3 1 = 3", "hidden 1 0 0 0 = 32750", "take 0 = 2",
                "hidden 1 0 0 0 = 32751");
        Check.edge("promise 23", "one WORK more, beside six", SIX, "row 0 0 4 = 4", "hidden 1 2 0 0 = 0",
                "setUp 15 1 1 = FULL", "set 0 1 4 = 4", "hidden 4 2 0 0 = " + (65535 - 15 - 64 - 1024),
                "count 1 = 6");
        Check.edge("promise 23", "nothing changes", "read a8,0,0,0;b0,0,0,0; = 0", "row 0 0 4 = 4",
                "hidden 1 0 0 0 = 0",
                "count 1 = 0", "count 5 = 0", "felt 12 0 = 8", "set 0 0 0 = 0");
    }

    private static void most() {
        Check.edge("promise 24", "BAD", STILL, Check.beyond("most # 0", 0, 3, "BAD"), Check.beyond("most 0 #",
                0, 1, "BAD"));
        Check.edge("promise 24", "of several the least: all are alike", STILL, Check.each(0, 3, "most # 0 = 0"),
                Check.each(0, 3, "most # 1 = 0"), "setUp 0 1 1 = 1", "setUp 1 1 1 = 2",
                Check.each(0, 3, "most # 0 = 2"));
        Check.edge("promise 24", "of several the least", "read a8,0,0,0;b0,0,0,0; = 0", "most 1 0 = 0", "most 1 1 = 4",
                "setUp 0 3 99 = 1", "turn 0 = 1", "most 1 0 = 4", "most 1 1 = 4", "setUp 4 3 99 = 2", "turn 4 = 1",
                "most 1 0 = 8", "setUp 8 3 99 = 3", "turn 8 = 1", "most 1 0 = 12", "setUp 12 3 99 = 4", "turn 12 = 1",
                "most 1 0 = 1", "most 1 1 = 0", "most 0 0 = 1", "most 0 1 = 8");
        Check.edge("promise 24", "a wall more makes most LEAVE: the last cell",
                "read a0,0,9,9;b0,0,0,0;s0,3,99;s1,3,99;"
                + "s2,3,99; = 3", "turn 3 = 1", "turn 7 = 1", "turn 11 = 1", "most 2 0 = 15", "most 2 1 = 13");
        Check.edge("promise 24", "a wall more, beside six", SIX, "most 3 0 = 4", "most 3 1 = 0", "most 1 0 = 4",
                "most 1 1 = 8", "count 1 = 6", "count 5 = 0");
    }

    private static void lotsRefused() {
        Check.edge("promise 25", "BAD", STILL, Check.beyond("lots # 0 0 0", 0, 15, "BAD"),
                Check.beyond("lots 0 # 0 0", 0, 99, "BAD"), Check.beyond("lots 0 0 # 0", 0, 10, "BAD"),
                Check.beyond("lots 0 0 0 #", 0, 1, "BAD"), "lots 15 99 10 1 = 1", "lots 15 99 10 0 = 0");
    }

    private static void lots() {
        Check.edge("promise 25", "0 is 0 by 1", "read a8,0,0,0;b0,0,0,0;w0,0,0;w1,0,0; = 2", "lots 12 9 3 0 = 0",
                "lots 12 9 3 1 = 1", "lots 15 1 5 0 = 0", "lots 15 1 5 1 = 1", "lots 12 8 0 0 = 0",
                "lots 12 8 0 1 = 1");
        Check.edge("promise 25", "v (0 to 99), or more: 0 is ever so", "read a8,0,0,0;b0,0,0,0;w0,0,0;w1,0,0; = 2",
                "lots 15 0 3 0 = 1", "lots 15 0 3 1 = 1", "lots 0 8 3 0 = 1", "lots 0 8 3 1 = 1");
        Check.edge("promise 25", "v, or more", "read a8,0,0,0;b0,0,0,0;w0,0,0; = 1", "lots 4 8 3 0 = 3",
                "lots 4 8 3 1 = 10",
                "lots 4 7 3 0 = 3", "lots 4 9 3 0 = 0", "lots 5 4 3 0 = 7", "lots 5 4 3 1 = 10", "lots 5 5 3 0 = 0");
        Check.edge("promise 25", "c of 10: none, all", "read a8,0,0,0;b0,0,0,0;w0,0,99; = 1", "lots 4 1 0 0 = 0",
                "lots 4 1 10 0 = 1", "lots 4 1 10 1 = 1", "lots 5 1 0 0 = 1", "lots 5 1 0 1 = 1", "lots 5 1 10 0 = 0",
                "lots 5 1 10 1 = 1");
        int[][] tenths = {{1, 10}, {1, 5}, {3, 10}, {2, 5}, {1, 2}, {3, 5}, {7, 10}, {4, 5}, {9, 10}};
        for (int c = 1; c <= 9; c++) {
            Check.edge("promise 25", "in lowest terms", "read a8,0,0,0;b0,0,0,0;w0,0,99; = 1",
                    "lots 4 8 " + c + " 0 = " + tenths[c - 1][0], "lots 4 8 " + c + " 1 = " + tenths[c - 1][1]);
        }
        Check.edge("promise 25", "without WORKS", "read a8,0,0,0;b0,0,0,0; = 0", "lots 4 8 5 0 = 1", "lots 4 8 5 1 = 1",
                "lots 4 9 5 0 = 0", "lots 4 9 5 1 = 1");
        // Something comes to cell 13 unless all six break.
        Check.edge("promise 25", "each by itself: six",
                "read a31,0,31,0;b0,0,0,0;w0,0,0;w1,0,0;w2,0,0;h0,2,0;h1,2,0;h2,2,0; = 6",
                "lots 13 1 1 0 = 999999", "lots 13 1 1 1 = 1000000", "lots 13 1 3 0 = 999271",
                "lots 13 1 3 1 = 1000000",
                "lots 13 1 9 0 = 468559", "lots 13 1 9 1 = 1000000", "lots 13 1 5 0 = 63", "lots 13 1 5 1 = 64",
                "lots 13 1 10 0 = 0", "lots 13 1 10 1 = 1", "lots 13 1 0 0 = 1", "lots 13 1 0 1 = 1");
        Check.edge("promise 25", "breaks now, whatever it holds, and it is FELT now",
                "read a8,0,0,0;b1,0,0,0;v0,0,0; = 1",
                "lots 4 8 5 0 = 1", "lots 4 8 5 1 = 2", "lots 5 8 5 0 = 0", "lots 4 9 5 0 = 0", "count 1 = 1",
                "count 2 = 0");
    }

    private static void image() {
        Check.edge("promise 26", "BAD, ahead of STATE", Check.beyond("image #", 0, 1, "BAD"), "image 0 = STATE",
                "image 1 = STATE");
        Check.edge("promise 26", "BAD", STILL, Check.beyond("image #", 0, 1, "BAD"), "restore 0 = STATE", "image 0 = 1",
                "image 1 = 1");
        Check.edge("promise 26", "an IMAGE is kept in place of the one before", STILL, "image 0 = 1", "gust 0 5 = 0",
                "image 0 = 1", "gust 0 9 = 5", "restore 0 = 1", "wind 0 0 = 5");
        Check.edge("promise 26", "kept as it is now, whatever comes", STILL, "setUp 0 3 9 = 1", "image 1 = 1",
                "turn 0 = 1",
                "hours 3 = 1", "gust 2 2 = 0", "take 0 = 0", "restore 1 = 1", "kind 0 = 3", "cell 0 3 = 0",
                "count 2 = 0",
                "wind 2 0 = 0");
        Check.edge("promise 26", "no ACT", STILL, "gust 0 5 = 0", "image 0 = 1", "count 5 = 1", "undo = 0",
                "wind 0 0 = 0");
    }

    private static void restore() {
        Check.edge("promise 27", "BAD, ahead of STATE", Check.beyond("restore #", 0, 1, "BAD"), STILL,
                Check.beyond("restore #", 0, 1, "BAD"));
        Check.edge("promise 27", "STATE: none was kept", "restore 0 = STATE", "restore 1 = STATE", STILL,
                "restore 0 = STATE", "restore 1 = STATE", "image 1 = 1", "restore 0 = STATE", "restore 1 = 1",
                "image 0 = 1", "restore 0 = 1");
        Check.edge("promise 27", "STATE: what is refused changes nothing", STILL, "gust 0 5 = 0", "restore 0 = STATE",
                "restore 2 = BAD", "count 5 = 1", "wind 0 0 = 5", "undo = 0");
        Check.edge("promise 27", "no ACT can be undone then", STILL, "gust 0 5 = 0", "image 0 = 1", "gust 0 6 = 5",
                "count 5 = 2", "restore 0 = 1", "count 5 = 0", "undo = STATE", "wind 0 0 = 5", "gust 0 7 = 5",
                "undo = 0",
                "wind 0 0 = 5");
        Check.edge("promise 27", "as an IMAGE kept it, more than once", "read a1,2,3,4;b5,6,7,8;s1,2,33;h3,0,44; = 2",
                "turn 6 = 1", "hours 1 = 2", "image 0 = 1", "read a0,0,0,0;b0,0,0,0;w0,0,0; = 1", "restore 0 = 1",
                "take 12 = 1", "turn 6 = 0", "gust 0 0 = 6", "restore 0 = 1", "count 2 = 1", "kind 0 = NONE",
                "kind 6 = 3",
                "cell 6 2 = 33", "cell 6 3 = 1", "kind 12 = 4", "cell 12 2 = 44", "wind 0 0 = 6", "wind 3 0 = 12",
                "wind 0 1 = 5", "wind 3 1 = 8", "count 1 = 2");
        Check.edge("promise 27", "HOUR 999 is kept, too", STILL, Check.times(49, "hours 20 = 0"), "hours 19 = 0",
                "image 0 = 1", STILL, "hours 20 = 0", "restore 0 = 1", "count 2 = 999", "hours 1 = FULL");
        Check.edge("promise 27", "places far beyond", "restore " + LEAST + " = BAD", "restore " + MOST + " = BAD");
    }
}
