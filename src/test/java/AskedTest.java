/** Promises 28 to 32: what WORKS are and answer, THE TRACE, and counts. */
public final class AskedTest {
    // Felt: 20 on cell 1 (wall), 10 on cell 7 (net), 3 on cell 0 (shutter), 0 on cells 12 and 10.
    private static final String KINDS = "read a3,20,0,10;b0,0,0,0;w0,1,30;n1,3,12;s0,0,9;h3,0,44;v2,2,50; = 5";

    public static void main(String[] args) {
        kind();
        as();
        size();
        mark();
        trace();
        count();
        Check.end();
    }

    private static void kind() {
        Check.run("promise 28", "kind 16 = STATE", "kind 0 = STATE", KINDS, "kind 1 = 1", "kind 7 = 2", "kind 0 = 3",
                "kind 12 = 4", "kind 10 = 5", "kind 2 = NONE", "kind 16 = BAD", "kind -1 = BAD");
    }

    private static void as() {
        Check.run("promise 29, wrong", "as 16 0 = STATE", KINDS, "as 16 0 = BAD", "as -1 0 = BAD", "as 0 -1 = BAD",
                "as 0 6 = BAD", "as 2 6 = BAD", "as 2 0 = STATE");
        int[] cells = {1, 7, 0, 12, 10};
        int[] are = {0b000011, 0b000111, 0b001011, 0b010001, 0b110001};
        for (int work = 0; work < cells.length; work++) {
            for (int kind = 0; kind <= 5; kind++) {
                boolean is = (are[work] >> kind & 1) == 1;
                Check.run("promise 29", KINDS, "as " + cells[work] + " " + kind + " = " + (is ? cells[work] : "KIND"),
                        "status = " + (is ? 0 : 3));
            }
        }
    }

    private static void size() {
        Check.run("promise 30, wrong", "ask 16 0 = STATE", KINDS, "ask 16 0 = BAD", "ask -1 0 = BAD", "ask 1 2 = BAD",
                "ask 1 -1 = BAD", "ask 2 2 = BAD", "ask 2 0 = STATE", "trace 0 = NONE");
        Check.run("promise 30, SIZE of a wall", KINDS, "ask 1 0 = 51", "trace 0 = 11", "trace 1 = 10", "trace 2 = 21",
                "trace 3 = 20", "trace 4 = NONE");
        Check.run("promise 30, SIZE of a net", KINDS, "ask 7 0 = -46", "trace 0 = 12", "trace 1 = 11", "trace 2 = 10",
                "trace 3 = 24", "trace 4 = 21", "trace 5 = 20", "trace 6 = NONE");
        Check.run("promise 30, SIZE of a shutter", KINDS, "ask 0 0 = -988", "trace 0 = 11", "trace 1 = 10",
                "trace 2 = 22", "trace 3 = 21", "trace 4 = 20", "trace 5 = NONE");
        Check.run("promise 30, SIZE of a hand", KINDS, "ask 12 0 = -56", "trace 0 = 13", "trace 1 = 10",
                "trace 2 = NONE");
        Check.run("promise 30, SIZE of a vane", KINDS, "ask 10 0 = -100", "trace 0 = 14", "trace 1 = 13",
                "trace 2 = 10", "trace 3 = NONE");
    }

    private static void mark() {
        Check.run("promise 30, MARK of a wall", KINDS, "ask 1 1 = 21", "trace 0 = 21", "trace 1 = 20", "trace 2 = NONE",
                "gust 1 5 = 20", "ask 1 1 = 6");
        Check.run("promise 30, MARK of a net", KINDS, "ask 7 1 = 34", "trace 0 = 24", "trace 1 = 21", "trace 2 = 20",
                "trace 3 = NONE");
        Check.run("promise 30, MARK of a shutter", KINDS, "ask 0 1 = -997", "trace 0 = 22", "trace 1 = 21",
                "trace 2 = 20", "trace 3 = NONE");
        Check.run("promise 30, MARK of a hand", KINDS, "ask 12 1 = 68", "trace 0 = 23", "trace 1 = 20", "trace 2 = 13",
                "trace 3 = 10", "trace 4 = NONE");
        Check.run("promise 30, MARK of a vane", KINDS, "ask 10 1 = 110", "trace 0 = 23", "trace 1 = 20", "trace 2 = 14",
                "trace 3 = 13", "trace 4 = 10", "trace 5 = NONE");
    }

    private static void trace() {
        Check.run("promise 31", "trace 0 = NONE", "trace -1 = NONE", "trace 16 = NONE", KINDS, "ask 7 0 = -46",
                "trace 5 = 20", "ask 2 0 = STATE", "ask 16 0 = BAD", "trace 5 = 20", "trace -1 = NONE",
                "trace 2147483647 = NONE", "trace -2147483648 = NONE", "ask 12 0 = -56", "trace 1 = 10",
                "trace 2 = NONE", "trace 5 = NONE", "ask 7 0 = -46", "ask 1 1 = 21", "trace 0 = 21", "trace 1 = 20",
                "trace 2 = NONE", "ask 12 0 = -56", "read a0,0,0,0;b0,0,0,0; = 0", "trace 0 = 13", "ask 0 0 = STATE",
                "trace 0 = 13");
    }

    private static void count() {
        Check.run("promise 32, of now", "read a9,0,0,0;b1,0,0,0;h0,0,90; = 1", "count 3 = 9", "felt 0 5 = 14",
                "count 3 = 9", "most 1 0 = 1", "count 3 = 9", "count 4 = 0", "lots 0 0 10 0 = 1", "count 4 = 0",
                "lots 0 0 10 0 = 1", "count 3 = 9", "lots 0 0 10 0 = 1", "ask 0 0 = -10",
                "hours 1 = 1", "count 3 = 10");
        Check.run("promise 32", "count -1 = BAD", "count 7 = BAD", "row 0 0 1 = 1", "row 5 1 2 = 2", "count 0 = 2",
                "text a", "count 6 = 1", "pass = -1000101", "count 6 = 0",
                "read a9,1,2,7;b1,0,0,0;w0,0,9;w0,3,50; = 2", "count 0 = 2", "count 1 = 2", "count 2 = 0",
                "count 3 = 8", "count 4 = 11", "count 5 = 0", "hours 2 = 1", "count 1 = 1", "count 2 = 2",
                "count 3 = 4", "count 4 = 17", "count 5 = 2", "undo = 1", "count 1 = 2", "count 2 = 1",
                "count 3 = 9", "count 7 = BAD", "count 2147483647 = BAD", "count -2147483648 = BAD");
    }
}
