/** Promises 9 to 16: a PASS is turned by ACTS, and looked at. */
public final class ActsTest {
    private static final String STILL = "read a10,7,0,3;b0,0,0,0; = 0";

    public static void main(String[] args) {
        setUp();
        take();
        turn();
        gust();
        hours();
        breaking();
        undo();
        cell();
        wind();
        Check.end();
    }

    private static void setUp() {
        Check.run("promise 9", STILL, "setUp 1 1 50 = 1", "cell 1 1 = 1", "cell 1 2 = 50", "cell 1 3 = 0",
                "cell 4 0 = 13", "cell 5 0 = 0", "cell 6 0 = 4", "count 1 = 1", "count 5 = 1",
                "setUp 15 5 0 = 2", "cell 15 1 = 5", "cell 15 2 = 0", "setUp 0 3 99 = 3", "cell 0 3 = 0");
        Check.run("promise 9, wrong", "setUp 16 1 1 = STATE", STILL, "setUp 16 1 1 = BAD", "setUp -1 1 1 = BAD",
                "setUp 0 0 1 = BAD", "setUp 0 6 1 = BAD", "setUp 0 1 -1 = BAD", "setUp 0 1 100 = BAD", "count 5 = 0",
                "setUp 0 1 1 = 1", "setUp 0 6 1 = BAD", "setUp 0 2 1 = STATE", "count 5 = 1", "setUp 1 1 1 = 2",
                "setUp 2 2 1 = 3", "setUp 3 3 1 = 4", "setUp 4 4 1 = 5", "setUp 5 5 1 = 6", "setUp 6 1 1 = FULL",
                "setUp 5 1 1 = STATE", "setUp 6 6 1 = BAD", "count 1 = 6", "count 5 = 6");
    }

    private static void take() {
        Check.run("promise 10", "take 0 = STATE", "take 16 = STATE",
                "read a10,7,0,3;b0,0,0,0;w0,0,9;s1,1,9; = 2", "turn 5 = 1", "take 16 = BAD", "take -1 = BAD",
                "take 1 = STATE", "count 5 = 1", "take 5 = 1", "cell 5 1 = NONE", "count 5 = 2", "take 5 = STATE",
                "setUp 5 3 9 = 2", "cell 5 3 = 0", "take 0 = 1", "take 5 = 0", "count 1 = 0");
    }

    private static void turn() {
        Check.run("promise 11", "turn 0 = STATE", "turn 16 = STATE",
                "read a10,7,0,3;b0,0,0,0;s0,0,90;w0,1,90;h1,1,90; = 3", "turn 16 = BAD", "turn -1 = BAD",
                "turn 1 = STATE", "turn 5 = STATE", "turn 2 = STATE", "count 5 = 0", "cell 4 0 = 3",
                "turn 0 = 1", "cell 0 3 = 1", "cell 4 0 = 13", "turn 0 = 0", "cell 0 3 = 0", "cell 4 0 = 3",
                "count 5 = 2");
    }

    private static void gust() {
        Check.run("promise 12", "gust 4 0 = STATE", STILL, "gust 0 31 = 10", "wind 0 0 = 31", "wind 0 1 = 0",
                "gust 0 31 = 31", "count 5 = 2", "gust 3 0 = 3", "wind 3 0 = 0", "gust 4 0 = BAD", "gust -1 0 = BAD",
                "gust 0 32 = BAD", "gust 0 -1 = BAD", "count 5 = 3", "wind 0 0 = 31");
    }

    private static void hours() {
        Check.run("promise 13", "hours 0 = STATE", "read a8,16,24,5;b1,2,30,31;w0,1,99; = 1", "hours 0 = BAD",
                "hours 21 = BAD", "hours -1 = BAD", "count 2 = 0", "count 5 = 0", "hours 1 = 1", "count 2 = 1",
                "count 5 = 1", "wind 0 0 = 9", "wind 1 0 = 18", "wind 2 0 = 22", "wind 3 0 = 4", "wind 3 1 = 31",
                "hours 7 = 1", "wind 0 0 = 16", "wind 1 0 = 0", "wind 2 0 = 8", "wind 3 0 = 29", "count 2 = 8",
                "count 5 = 8", "hours 20 = 1", "count 5 = 24", "count 2 = 28");
        String[] lines = new String[54];
        lines[0] = "read a0,0,0,0;b1,0,0,0; = 0";
        for (int i = 1; i <= 49; i++) {
            lines[i] = "hours 20 = 0";
        }
        lines[50] = "hours 20 = FULL";
        lines[51] = "hours 19 = 0";
        lines[52] = "count 2 = 999";
        lines[53] = "hours 1 = FULL";
        Check.run("promise 13, HOUR 999", lines);
        lines[51] = "count 2 = 980";
        lines[52] = "hours 21 = BAD";
        lines[53] = "wind 0 0 = 20";
        Check.run("promise 13, what is refused", lines);
    }

    private static void breaking() {
        // A wall on cell 0 shelters the hand on cell 4: all break at once that have too much, by what was felt.
        Check.run("promise 13, works break", "read a20,0,0,0;b0,0,0,0;w0,0,19;h1,1,9; = 2", "cell 5 0 = 10",
                "hours 1 = 0", "cell 0 1 = NONE", "cell 5 1 = NONE", "cell 4 0 = 20", "count 2 = 1");
        Check.run("promise 13, as much as it holds", "read a20,0,0,0;b0,0,0,0;w0,0,20;h1,1,10; = 2", "hours 1 = 2");
        Check.run("promise 13, one shelters another", "read a20,0,0,0;b0,0,0,0;h0,0,19;w1,0,19; = 2", "cell 4 0 = 0",
                "hours 1 = 1", "cell 4 1 = 1", "cell 4 0 = 20", "hours 1 = 0");
        Check.run("promise 13, two HOURS", "read a20,0,0,0;b0,0,0,0;h0,0,19;w1,0,19; = 2", "hours 2 = 0");
        Check.run("promise 13, broken by a gust that rises", "read a9,0,0,0;b1,0,0,0;s0,0,10; = 1", "turn 0 = 1",
                "hours 2 = 1", "cell 0 0 = 11", "cell 0 3 = 1", "hours 1 = 0", "setUp 0 3 99 = 1", "cell 0 3 = 0");
    }

    private static void undo() {
        Check.run("promise 14", "undo = STATE", "read a9,8,7,6;b1,1,1,1;s0,0,40;w2,2,0; = 2", "undo = STATE",
                "setUp 1 4 3 = 3", "turn 0 = 1", "gust 1 20 = 8", "hours 2 = 1", "take 0 = 0", "count 5 = 6",
                "undo = 5", "cell 0 1 = 3", "cell 0 3 = 1", "cell 0 2 = 40",
                "undo = 4", "count 2 = 1", "wind 0 0 = 10", "undo = 3", "count 2 = 0", "count 1 = 3", "wind 1 0 = 20",
                "cell 10 1 = 1", "cell 1 1 = 4", "cell 1 2 = 3", "undo = 2", "wind 1 0 = 8", "undo = 1",
                "cell 0 3 = 0", "undo = 0", "cell 1 1 = NONE", "count 1 = 2", "undo = STATE");
        Check.run("promise 14, nothing becomes another", STILL, "gust 0 10 = 10", "count 5 = 1", "hours 1 = 0",
                "undo = 1", "undo = 0", "wind 0 0 = 10", "undo = STATE");
        Check.run("promise 14, refused is no ACT", STILL, "gust 0 32 = BAD", "setUp 0 0 0 = BAD", "take 0 = STATE",
                "turn 0 = STATE", "hours 0 = BAD", "undo = STATE");
        Check.run("promise 14, the oldest is forgotten", STILL, "gust 0 1 = 10", "gust 0 2 = 1", "gust 0 3 = 2",
                "hours 20 = 0", "count 5 = 23", "hours 1 = 0", "count 5 = 24", "gust 1 1 = 7", "count 5 = 24",
                "gust 2 2 = 0", "undo = 23", "undo = 22", "wind 1 0 = 7", "undo = 21", "undo = 20", "undo = 19",
                "undo = 18", "undo = 17", "undo = 16", "undo = 15", "undo = 14", "undo = 13", "undo = 12",
                "undo = 11", "undo = 10", "undo = 9", "undo = 8", "undo = 7", "undo = 6", "undo = 5", "undo = 4",
                "undo = 3", "undo = 2", "undo = 1", "count 2 = 0", "wind 0 0 = 3", "undo = 0", "wind 0 0 = 2",
                "undo = STATE", "gust 3 9 = 3", "undo = 0", "wind 3 0 = 3");
    }

    private static void cell() {
        Check.run("promise 15", "cell 16 0 = STATE", "read a10,7,0,3;b0,0,0,0;n0,1,44;s2,0,5;v3,3,0; = 3",
                "cell 1 0 = 7", "cell 1 1 = 2", "cell 1 2 = 44", "cell 1 3 = 0", "cell 8 1 = 3", "cell 8 3 = 0",
                "turn 8 = 1", "cell 8 3 = 1", "cell 8 2 = 5", "cell 15 1 = 5", "cell 15 2 = 0", "cell 15 3 = 0",
                "cell 0 1 = NONE", "cell 0 2 = NONE", "cell 0 3 = NONE", "cell 0 0 = 10",
                "cell 16 0 = BAD", "cell -1 0 = BAD", "cell 0 4 = BAD", "cell 0 -1 = BAD", "cell 1 4 = BAD");
        // 7 at the net: 3 go on, of the other 4 half to the north, half to the south.
        Check.run("promise 15, what is felt", "read a10,7,0,3;b0,0,0,0;n0,1,44; = 1", "cell 4 0 = 12",
                "cell 5 0 = 3", "cell 6 0 = 2", "cell 7 0 = 3", "cell 14 0 = 2");
        Check.run("promise 15, odd halves", "read a0,5,0,0;b0,0,0,0;n0,1,44; = 1", "cell 4 0 = 1", "cell 5 0 = 2",
                "cell 6 0 = 2", "take 1 = 0", "setUp 1 1 9 = 1", "cell 4 0 = 2", "cell 5 0 = 0", "cell 6 0 = 3",
                "take 1 = 0", "setUp 1 3 9 = 1", "cell 4 0 = 2", "cell 5 0 = 0", "cell 6 0 = 3", "turn 1 = 1",
                "cell 4 0 = 0", "cell 5 0 = 5", "cell 6 0 = 0", "take 1 = 0", "setUp 1 4 9 = 1", "cell 4 0 = 5",
                "cell 5 0 = 0", "cell 6 0 = 0", "hours 1 = 1", "cell 4 0 = 5", "take 1 = 0", "setUp 1 5 9 = 1",
                "cell 4 0 = 0", "cell 5 0 = 0", "cell 6 0 = 5", "hours 1 = 1", "cell 4 0 = 5", "cell 6 0 = 0");
        Check.run("promise 15, works behind works", "read a0,8,0,0;b0,0,0,0;w0,1,9;w1,0,9;h1,2,9; = 3",
                "cell 4 0 = 4", "cell 6 0 = 4", "cell 9 0 = 6", "cell 8 0 = 0", "cell 10 0 = 0", "cell 13 0 = 6");
    }

    private static void wind() {
        Check.run("promise 16", "wind 4 0 = STATE", "read a1,2,3,4;b5,6,7,31; = 0", "wind 0 0 = 1", "wind 3 0 = 4",
                "wind 0 1 = 5", "wind 3 1 = 31", "wind 4 0 = BAD", "wind -1 0 = BAD", "wind 0 2 = BAD",
                "wind 0 -1 = BAD", "hours 1 = 0", "wind 3 0 = 3", "wind 0 0 = 6", "wind 3 1 = 31");
    }
}
