/** Promises 17 to 27: what is foretold, and IMAGES. */
public final class ForetoldTest {
    private static final String RISING = "read a8,16,24,5;b1,2,30,31; = 0";

    public static void main(String[] args) {
        felt();
        lost();
        leaves();
        breaks();
        stands();
        walls();
        hidden();
        most();
        lots();
        images();
        Check.end();
    }

    private static void felt() {
        Check.run("promise 17", "felt 16 0 = STATE", RISING, "felt 0 0 = 8", "felt 13 0 = 16", "felt 0 1 = 9",
                "felt 1 1 = 18", "felt 2 1 = 22", "felt 3 1 = 4", "felt 12 40 = 16", "felt 13 40 = 0",
                "felt 14 40 = 8", "felt 15 40 = 29", "felt 0 41 = BAD", "felt 0 -1 = BAD", "felt 16 0 = BAD",
                "felt -1 0 = BAD", "count 2 = 0", "wind 0 0 = 8", "count 5 = 0");
        Check.run("promise 17, works break by then", "read a20,0,0,0;b0,0,0,0;h0,0,19;w1,0,19;v2,0,50; = 3",
                "felt 4 0 = 0", "felt 8 0 = 0", "felt 4 1 = 20", "felt 8 1 = 0", "felt 9 1 = 10", "felt 8 2 = 20",
                "felt 12 2 = 0", "felt 13 2 = 0", "felt 13 3 = 20", "count 1 = 3", "cell 0 1 = 4");
        Check.run("promise 17, a vane by HOURS", "read a0,5,0,0;b0,0,0,0;v0,1,9; = 1", "felt 4 0 = 5", "felt 6 0 = 0",
                "felt 4 1 = 0", "felt 6 1 = 5", "felt 4 40 = 5", "hours 1 = 1", "felt 6 0 = 5", "felt 4 39 = 5",
                "felt 6 40 = 5");
    }

    private static void lost() {
        Check.run("promise 18", "lost 0 = STATE", "lost 41 = STATE", "read a9,1,2,7;b1,0,0,0;w0,0,9;w0,3,50; = 2",
                "lost 0 = 8", "lost 1 = 9", "lost 2 = 4", "lost 40 = 4", "lost 41 = BAD", "lost -1 = BAD",
                "count 3 = 8", "count 4 = 11");
        Check.run("promise 18, at the east", "read a9,0,0,7;b0,0,0,0;h3,0,50;v3,3,50; = 2", "lost 0 = 9",
                "leaves 0 0 = 0", "leaves 2 0 = 7", "leaves 3 0 = 0", "lost 1 = 16", "leaves 2 1 = 0",
                "count 3 = 9", "count 4 = 7");
    }

    private static void leaves() {
        Check.run("promise 19", "leaves 4 0 = STATE", RISING, "leaves 0 0 = 8", "leaves 3 0 = 5", "leaves 2 1 = 22",
                "leaves 3 40 = 29", "leaves 4 0 = BAD", "leaves -1 0 = BAD", "leaves 0 41 = BAD", "leaves 0 -1 = BAD",
                "count 4 = 53");
        Check.run("promise 19, by the row to which it goes", "read a0,9,0,0;b0,0,0,0;w3,1,50; = 1", "leaves 0 0 = 4",
                "leaves 1 0 = 0", "leaves 2 0 = 5", "leaves 3 0 = 0", "take 13 = 0", "setUp 13 2 50 = 1",
                "leaves 0 0 = 2", "leaves 1 0 = 4", "leaves 2 0 = 3", "lost 0 = 0");
    }

    private static void breaks() {
        Check.run("promise 20", "breaks 2 = STATE", "read a0,0,0,0;b1,0,0,0; = 0", "breaks 0 = NONE",
                "breaks 1 = NONE", "breaks 2 = BAD", "breaks -1 = BAD", "setUp 0 1 10 = 1", "breaks 0 = 12",
                "breaks 1 = 0", "hours 11 = 1", "breaks 0 = 1", "hours 1 = 0", "breaks 0 = NONE", "undo = 12",
                "breaks 0 = 1", "setUp 8 4 0 = 2", "breaks 1 = 0");
        Check.run("promise 20, several", "read a5,5,5,5;b0,0,0,0;n3,3,4;n3,2,4;n0,0,5; = 3", "breaks 0 = 1",
                "breaks 1 = 14", "take 14 = 2", "breaks 1 = 15", "take 15 = 1", "breaks 0 = NONE", "breaks 1 = NONE");
        // GUST is 1, 0, 31: it is more than 30 in the third HOUR.
        Check.run("promise 20, a gust that comes anew", "read a1,0,0,0;b31,0,0,0;w0,0,30; = 1", "breaks 0 = 3",
                "hours 2 = 1", "breaks 0 = 1");
        Check.run("promise 20, by a vane in odd HOURS", "read a0,0,0,0;b1,0,0,0;v0,0,99;h1,1,22; = 2", "breaks 0 = 24",
                "breaks 1 = 5");
        // A GUST comes again behind 32 HOURS at the latest, so no WORK breaks first behind more.
        Check.run("promise 20, as late as can be", "read a0,0,0,0;b1,0,0,0;v0,0,99;h1,1,30; = 2", "breaks 0 = 32",
                "breaks 1 = 5", "take 5 = 1", "breaks 0 = NONE");
    }

    private static void stands() {
        Check.run("promise 21", "stands 8 0 = STATE", "read a5,6,7,8;b0,0,0,0; = 0", "stands 8 0 = BAD",
                "stands -1 0 = BAD", "stands 0 0 = NULL", "stands 7 0 = NULL", "stands 0 -1 = NULL", "row 0 0 15 = 15",
                "stands 0 0 = PLACE",
                "row 0 2 17 = 17", "stands 0 -1 = PLACE", "stands 0 2 = PLACE", "stands 0 2147483647 = PLACE",
                "stands 0 -2147483648 = PLACE", "stands 0 1 = 0", "set 0 1 5 = 5", "set 0 2 6 = 6", "set 0 3 7 = 7",
                "set 0 4 8 = 8", "copy 0 1 0 5 4 = 4", "copy 0 1 0 9 8 = 8", "stands 0 1 = 40", "stands 0 0 = 0",
                "set 0 16 9 = 9", "stands 0 1 = 0", "gust 3 9 = 8", "stands 0 1 = 0", "count 2 = 0");
        // GUST is 0, 8, 16, 24, and 0 again: a row of 0 stands for the first HOUR alone.
        for (int cell = 0; cell < 16; cell++) {
            String item = "set 7 " + (cell + 2);
            Check.run("promise 21, each cell", "read a0,0,0,0;b0,0,0,0; = 0", "row 7 0 18 = 18", "stands 7 2 = 40",
                    item + " 1 = 1", "stands 7 2 = 0", item + " 0 = 0", "stands 7 2 = 40");
        }
        Check.run("promise 21, HOURS without a gap", "read a0,0,0,0;b0,0,0,0; = 0", "row 1 1 16 = 16",
                "stands 1 0 = 40", "read a0,0,0,0;b8,0,0,0; = 0", "stands 1 0 = 1", "hours 1 = 0", "stands 1 0 = 0",
                "hours 3 = 0", "stands 1 0 = 1");
        Check.run("promise 21, a shape that stands and breaks", "read a4,0,0,0;b0,0,0,0;v0,0,9; = 1",
                "row 1 1 16 = 16", "set 1 0 4 = 4", "stands 1 0 = 1", "hours 1 = 1", "stands 1 0 = 0", "set 1 5 4 = 4",
                "set 1 9 4 = 4", "set 1 13 4 = 4", "stands 1 0 = 1");
    }

    private static void walls() {
        Check.run("promise 22, wrong", "walls 16 0 0 = STATE", "read a8,0,0,0;b0,0,0,0; = 0", "walls 16 0 0 = BAD",
                "walls -1 0 0 = BAD", "walls 0 -1 0 = BAD", "walls 0 100 0 = BAD", "walls 0 0 -2 = BAD",
                "walls 0 0 2 = BAD");
        Check.run("promise 22, none", "read a8,0,0,0;b0,0,0,0; = 0", "walls 0 8 -1 = 0", "walls 0 8 0 = NONE",
                "walls 0 8 1 = NONE", "walls 0 9 -1 = NONE", "walls 0 9 0 = NONE", "walls 0 9 1 = NONE",
                "walls 12 8 -1 = 0", "walls 15 0 -1 = 0");
        Check.run("promise 22, one", "read a8,0,0,0;b0,0,0,0; = 0", "walls 13 4 -1 = 1", "walls 13 4 0 = 0",
                "walls 13 4 1 = NONE", "walls 5 4 0 = 0", "walls 9 1 0 = 0", "count 1 = 0", "count 5 = 0",
                "setUp 0 4 99 = 1", "walls 13 4 -1 = NONE");
        Check.run("promise 22, two", "read a8,0,0,0;b0,0,0,0; = 0", "walls 10 2 -1 = 2", "walls 10 2 0 = 0",
                "walls 10 2 1 = 5", "walls 14 2 -1 = 2", "walls 14 2 0 = 0", "walls 14 2 1 = 5", "walls 10 3 -1 = NONE",
                "walls 15 1 -1 = NONE", "gust 3 8 = 0", "walls 9 4 0 = 0", "walls 6 4 0 = 3", "walls 10 5 -1 = NONE",
                "walls 10 4 -1 = 1", "walls 10 4 0 = 3");
        Check.run("promise 22, two behind the first cells", "read a0,0,0,16;b0,0,0,0; = 0", "walls 10 8 -1 = 1",
                "walls 10 8 0 = 3", "walls 9 4 -1 = 2", "walls 9 4 0 = 3", "walls 9 4 1 = 6", "walls 13 4 1 = 6",
                "walls 13 2 0 = 3", "walls 12 4 -1 = NONE");
        Check.run("promise 22, two side by side", "read a0,8,8,0;b0,0,0,0; = 0", "walls 4 4 0 = 1",
                "walls 4 5 -1 = NONE", "walls 5 12 0 = 2", "walls 8 6 -1 = 2", "walls 8 6 0 = 2", "walls 8 6 1 = 5",
                "walls 7 4 0 = 2", "walls 11 6 -1 = 2", "walls 11 6 0 = 1", "walls 11 6 1 = 6");
        Check.run("promise 22, walls on one line of cells", "read a8,8,0,0;b0,0,0,0; = 0", "walls 9 8 -1 = 0",
                "walls 10 6 -1 = 2", "walls 10 6 0 = 0", "walls 10 6 1 = 5", "setUp 9 4 0 = 1", "walls 14 8 -1 = NONE",
                "walls 14 6 0 = 0", "walls 14 6 1 = 5");
        Check.run("promise 22, two that follow", "read a0,8,0,8;b0,0,0,0;h0,1,99;h2,2,99; = 2", "walls 13 8 -1 = 2",
                "walls 13 8 0 = 3", "walls 13 8 1 = 4", "walls 13 9 -1 = NONE");
        // Cells with WORKS are passed over, and there may be more WORKS than six.
        Check.run("promise 22, beside six WORKS",
                "read a0,8,8,0;b0,0,0,0;n0,0,9;n0,3,9;n3,0,9;n3,1,9;n3,2,9;n3,3,9; = 6",
                "walls 4 4 -1 = 1", "walls 4 4 0 = 1", "walls 5 12 -1 = 1", "walls 5 12 0 = 2", "walls 13 16 -1 = NONE",
                "walls 8 6 -1 = 2", "walls 8 6 0 = 2", "walls 8 6 1 = 5", "count 1 = 6");
    }

    private static void hidden() {
        Check.run("promise 23, wrong", "hidden 0 4 8 0 = STATE", "read a8,0,0,0;b0,0,0,0; = 0", "hidden 0 0 0 0 = BAD",
                "hidden 6 0 0 0 = BAD", "hidden 1 4 0 0 = BAD", "hidden 1 -1 0 0 = BAD", "hidden 1 0 8 0 = BAD",
                "hidden 1 0 -1 0 = BAD", "hidden 1 0 0 0 = NULL", "hidden 1 0 7 0 = NULL",
                "row 0 0 4 = 4", "hidden 1 0 0 1 = PLACE",
                "hidden 1 0 0 -1 = PLACE", "hidden 1 0 0 2147483647 = PLACE", "hidden 1 0 0 0 = 0");
        // 8 0 0 0 along row 0: a wall, a shutter or a hand on cell 0, a net lets 4 on.
        Check.run("promise 23", "read a8,0,0,0;b0,0,0,0; = 0", "row 0 0 5 = 5", "set 0 1 8 = 8",
                "hidden 1 0 0 1 = 1", "hidden 2 0 0 1 = 0", "hidden 3 0 0 1 = 1", "hidden 4 0 0 1 = 1",
                "hidden 5 0 0 1 = 1", "set 0 2 4 = 4", "set 0 3 4 = 4", "set 0 4 4 = 4", "hidden 2 0 0 1 = 1",
                "hidden 1 0 0 1 = 0", "set 0 2 8 = 8", "set 0 3 8 = 8", "set 0 4 8 = 8",
                "hidden 1 0 0 1 = 65262", "hidden 2 0 0 1 = 65262", "hidden 1 0 0 0 = 0");
        Check.run("promise 23, along another row", "read a8,0,0,0;b0,0,0,0; = 0", "row 0 0 4 = 4", "set 0 1 4 = 4",
                "set 0 2 4 = 4", "set 0 3 4 = 4", "hidden 1 1 0 0 = 1", "hidden 5 1 0 0 = 0", "set 0 1 8 = 8",
                "set 0 2 8 = 8", "set 0 3 8 = 8", "hidden 5 1 0 0 = 0", "hours 1 = 0", "hidden 5 1 0 0 = 1",
                "hidden 4 1 0 0 = 0", "count 1 = 0");
        Check.run("promise 23, a cell with a WORK", "read a8,0,0,0;b0,0,0,0;s0,0,9;s3,3,9; = 2", "row 0 0 4 = 4",
                "set 0 0 8 = 8", "hidden 1 0 0 0 = 32222", "turn 0 = 1", "hidden 1 0 0 0 = 0", "count 1 = 2");
        Check.run("promise 23, beside six WORKS",
                "read a0,0,0,0;b0,0,0,0;w0,0,1;w0,1,1;w0,2,1;w0,3,1;w1,0,1;w1,1,1; = 6", "row 0 0 4 = 4",
                "hidden 1 0 0 0 = 65472");
    }

    private static void most() {
        Check.run("promise 24", "most 4 0 = STATE", "read a8,0,0,0;b0,0,0,0; = 0", "most 4 0 = BAD", "most -1 0 = BAD",
                "most 0 2 = BAD", "most 0 -1 = BAD", "most 0 0 = 1", "most 0 1 = 8", "most 1 0 = 0", "most 1 1 = 4",
                "most 2 0 = 0", "most 2 1 = 0", "gust 1 7 = 0", "most 0 0 = 1", "most 0 1 = 11", "most 1 0 = 0",
                "most 1 1 = 11", "most 2 0 = 1", "most 2 1 = 4", "most 3 1 = 0", "count 1 = 0", "count 5 = 1");
        Check.run("promise 24, beside six WORKS",
                "read a9,0,0,0;b0,0,0,0;w0,0,1;h0,1,1;h0,2,1;h0,3,1;h1,2,1;h2,2,1; = 6", "most 1 0 = 4",
                "most 1 1 = 5", "most 2 0 = 9", "most 2 1 = 3", "most 0 1 = 2");
    }

    private static void lots() {
        Check.run("promise 25, wrong", "lots 16 0 0 0 = STATE", "read a8,0,0,0;b0,0,0,0; = 0", "lots 16 0 0 0 = BAD",
                "lots -1 0 0 0 = BAD", "lots 0 100 0 0 = BAD", "lots 0 -1 0 0 = BAD", "lots 0 0 11 0 = BAD",
                "lots 0 0 -1 0 = BAD", "lots 0 0 0 2 = BAD", "lots 0 0 0 -1 = BAD");
        Check.run("promise 25, no WORKS", "read a8,0,0,0;b0,0,0,0; = 0", "lots 12 8 3 0 = 1", "lots 12 8 3 1 = 1",
                "lots 12 9 3 0 = 0", "lots 12 9 3 1 = 1");
        Check.run("promise 25", "read a8,0,0,0;b0,0,0,0;w0,0,0; = 1", "lots 4 8 4 0 = 2", "lots 4 8 4 1 = 5",
                "lots 5 4 4 0 = 3", "lots 5 4 4 1 = 5", "lots 4 8 0 0 = 0", "lots 4 8 0 1 = 1", "lots 4 8 10 0 = 1",
                "lots 4 8 10 1 = 1", "lots 5 5 4 0 = 0", "lots 5 5 4 1 = 1", "lots 5 0 4 0 = 1", "lots 5 0 4 1 = 1",
                "count 1 = 1", "cell 0 1 = 1");
        // 8 comes to cell 12 if all three walls ahead of it break: 27 of 1000.
        Check.run("promise 25, more WORKS", "read a8,0,0,0;b0,0,0,0;w0,0,0;w1,0,0;w2,0,0; = 3", "lots 12 8 3 0 = 27",
                "lots 12 8 3 1 = 1000", "lots 12 1 3 0 = 27", "lots 13 4 3 0 = 973", "lots 13 4 3 1 = 1000");
        // A work that nothing comes to makes the fraction no other.
        Check.run("promise 25, six", "read a8,0,0,0;b0,0,0,0;w0,0,0;h0,1,0;h0,2,0;h0,3,0;h3,3,0;v3,2,0; = 6",
                "lots 12 8 1 0 = 1", "lots 12 8 1 1 = 10", "lots 12 8 5 0 = 1", "lots 12 8 5 1 = 2");
        Check.run("promise 25, six that hinder",
                "read a8,0,0,0;b0,0,0,0;w0,0,0;w1,0,0;w2,0,0;h3,0,0;h3,1,0;h1,1,0; = 6", "lots 12 8 1 0 = 1",
                "lots 12 8 1 1 = 1000", "lots 13 4 3 0 = 483", "lots 13 4 3 1 = 1000");
    }

    private static void images() {
        Check.run("promises 26, 27", "image 2 = BAD", "image -1 = BAD", "image 0 = STATE", "restore 2 = BAD",
                "restore -1 = BAD", "restore 0 = STATE", "read a8,1,2,3;b1,2,3,4;s0,0,50;w1,1,40; = 2", "image 2 = BAD",
                "turn 0 = 1", "hours 2 = 2", "image 0 = 1", "count 5 = 3", "restore 1 = STATE", "hours 1 = 2",
                "take 0 = 1", "turn 5 = STATE", "setUp 2 4 40 = 2", "gust 3 31 = 15", "image 1 = 1", "count 5 = 7",
                "restore 0 = 1", "count 5 = 0", "undo = STATE", "count 2 = 2", "cell 0 1 = 3", "cell 0 2 = 50",
                "cell 0 3 = 1", "cell 5 1 = 1", "cell 5 2 = 40", "cell 2 1 = NONE", "wind 0 0 = 10", "wind 3 0 = 11",
                "wind 3 1 = 4", "take 5 = 1", "restore 0 = 1", "cell 5 1 = 1", "undo = STATE",
                "restore 1 = 1", "count 2 = 3", "cell 0 1 = NONE", "cell 2 1 = 4", "wind 3 0 = 31", "image 0 = 1",
                "restore 0 = 1", "count 2 = 3", "restore 2 = BAD");
        Check.run("promises 26, 27, over a PASS that is read", "read a8,1,2,3;b1,2,3,4;s0,0,50; = 1", "image 1 = 1",
                "undo = STATE", "read a0,0,0,0;b0,0,0,0; = 0", "gust 0 5 = 0", "restore 0 = STATE", "count 5 = 1",
                "restore 1 = 1", "count 1 = 1", "wind 0 0 = 8", "wind 0 1 = 1", "undo = STATE");
        Check.run("promise 27, THE TRACE and ROWS stay", "read a8,1,2,3;b1,2,3,4;s0,0,50; = 1", "image 0 = 1",
                "ask 0 1 = -992", "row 0 0 3 = 3", "restore 0 = 1", "trace 0 = 22", "count 0 = 1");
    }
}
