/** Promises 1 to 5, and 33 of the calls with a ROW. */
public final class RowsTest {
    public static void main(String[] args) {
        newObject();
        row();
        set();
        copy();
        drop();
        status();
        Check.end();
    }

    private static void newObject() {
        Check.run("promise 1", "count 0 = 0", "count 1 = 0", "count 2 = 0", "count 3 = 0", "count 4 = 0",
                "count 5 = 0", "count 6 = 0", "fault = 0", "status = 0", "trace 0 = NONE", "undo = STATE",
                "cell 0 0 = STATE", "wind 0 0 = STATE", "image 0 = STATE", "restore 0 = STATE", "restore 1 = STATE",
                "set 0 0 1 = NULL", "set 7 0 1 = NULL");
    }

    private static void row() {
        Check.run("promise 2", "row 0 0 0 = 0", "count 0 = 1", "row 7 2 40 = 40", "count 0 = 2",
                "set 7 39 9 = 9", "set 7 40 9 = PLACE",
                "row 7 1 3 = 3", "count 0 = 2", "set 7 2 40000 = -25536", "set 7 3 1 = PLACE");
        Check.run("promise 2, ITEMS are 0", "read a0,0,0,0;b0,0,0,0; = 0", "row 0 0 16 = 16", "stands 0 0 = 40",
                "set 0 0 1 = 1", "stands 0 0 = 0", "row 0 0 16 = 16", "stands 0 0 = 40",
                "set 0 15 1 = 1", "stands 0 0 = 0", "row 0 0 16 = 16", "stands 0 0 = 40",
                "set 0 0 1 = 1", "drop 0 = 16", "row 0 0 16 = 16", "stands 0 0 = 40");
        Check.run("promise 2, wrong", "row -1 0 1 = BAD", "row 8 0 1 = BAD", "row 0 -1 1 = BAD", "row 0 3 1 = BAD",
                "row 0 0 41 = BAD", "row 8 0 -1 = BAD", "row 0 3 -1 = BAD", "count 0 = 0",
                "row 0 0 -1 = SIZE", "row 0 0 -2147483648 = SIZE", "count 0 = 0",
                "row 0 2 5 = 5", "set 0 4 70000 = 70000", "row 0 0 -1 = SIZE", "row 0 0 41 = BAD",
                "set 0 4 70000 = 70000", "row 0 2147483647 5 = BAD", "row -2147483648 0 5 = BAD");
    }

    private static void set() {
        Check.run("promise 3, bytes", "row 0 0 2 = 2", "set 0 0 127 = 127", "set 0 0 128 = -128", "set 0 1 256 = 0",
                "set 0 1 -129 = 127", "set 0 1 -2147483648 = 0");
        Check.run("promise 3, shorts", "row 1 1 2 = 2", "set 1 0 32767 = 32767", "set 1 0 32768 = -32768",
                "set 1 1 65536 = 0", "set 1 1 -32769 = 32767");
        Check.run("promise 3, ints", "row 2 2 1 = 1", "set 2 0 2147483647 = 2147483647",
                "set 2 0 -2147483648 = -2147483648");
        Check.run("promise 3, wrong", "row 0 0 2 = 2", "set 8 0 1 = BAD", "set -1 0 1 = BAD", "set 1 0 1 = NULL",
                "set 1 -1 1 = NULL", "set 0 -1 1 = PLACE", "set 0 2 1 = PLACE", "set 0 2147483647 1 = PLACE",
                "set 0 -2147483648 1 = PLACE", "row 0 0 0 = 0", "set 0 0 1 = PLACE");
    }

    private static void copy() {
        // What a ROW has is told by how long it stands: the pass is still, so it stands ever or never.
        Check.run("promise 4", "read a1,2,3,4;b0,0,0,0; = 0", "row 0 0 20 = 20",
                "set 0 0 1 = 1", "set 0 1 2 = 2", "set 0 2 3 = 3", "set 0 3 4 = 4",
                "copy 0 0 0 4 4 = 4", "copy 0 0 0 8 8 = 8", "stands 0 0 = 40",
                "row 1 0 17 = 17", "copy 0 0 1 1 16 = 16", "stands 1 1 = 40", "stands 1 0 = 0", "stands 0 0 = 40");
        Check.run("promise 4, as they were ahead", "read a7,7,7,7;b0,0,0,0; = 0", "row 0 2 17 = 17",
                "row 1 2 40 = 40", "set 0 0 7 = 7", "copy 0 0 0 1 16 = 16", "stands 0 0 = 0",
                "copy 0 0 1 0 16 = 16", "hidden 1 0 1 0 = 16",
                "row 0 0 3 = 3", "set 0 0 1 = 1", "set 0 1 2 = 2", "copy 0 0 0 1 2 = 2",
                "row 2 0 16 = 16", "copy 0 1 2 0 2 = 2");
        Check.run("promise 4, ahead, both ways", "read a1,2,3,4;b0,0,0,0; = 0", "row 0 0 16 = 16",
                "row 1 0 17 = 17", "set 1 1 1 = 1", "set 1 2 2 = 2", "set 1 3 3 = 3", "set 1 4 4 = 4",
                "copy 1 1 1 0 16 = 16", "copy 1 0 1 1 16 = 16", "copy 1 1 1 5 4 = 4", "copy 1 1 1 9 8 = 8",
                "stands 1 1 = 40", "copy 1 1 1 0 16 = 16", "stands 1 0 = 40");
        Check.run("promise 4, the last ROW", "row 7 1 2 = 2", "row 6 1 2 = 2", "copy 7 0 6 0 2 = 2",
                "copy 6 0 7 0 2 = 2", "drop 7 = 2", "drop 6 = 2");
        Check.run("promise 4, edges", "row 0 0 3 = 3", "row 1 0 5 = 5", "copy 0 3 1 5 0 = 0", "copy 0 0 1 2 3 = 3",
                "copy 0 4 1 0 0 = PLACE", "copy 0 0 1 6 0 = PLACE", "copy 0 1 1 0 3 = PLACE", "copy 0 0 1 3 3 = PLACE",
                "copy 0 -1 1 0 1 = PLACE", "copy 0 0 1 -1 1 = PLACE", "copy 0 0 1 0 -1 = PLACE",
                "copy 0 2147483647 1 0 1 = PLACE", "copy 0 0 1 2147483647 2147483647 = PLACE",
                "copy 0 0 1 0 -2147483648 = PLACE", "copy 0 -2147483648 1 0 2147483647 = PLACE");
        Check.run("promise 4, wrong", "row 0 0 3 = 3", "row 1 1 3 = 3", "copy 8 0 0 0 1 = BAD", "copy 0 0 8 0 1 = BAD",
                "copy -1 0 0 0 1 = BAD", "copy 0 0 -1 0 1 = BAD", "copy 2 0 8 0 1 = BAD",
                "copy 2 0 0 0 1 = NULL", "copy 0 0 2 0 1 = NULL", "copy 2 -1 3 -1 -1 = NULL",
                "copy 0 0 1 0 1 = STORE", "copy 0 0 1 0 0 = STORE", "copy 0 -1 1 0 1 = STORE",
                "copy 0 0 0 0 9 = PLACE");
    }

    private static void drop() {
        Check.run("promise 5", "row 3 1 7 = 7", "row 4 1 0 = 0", "drop 3 = 7", "count 0 = 1", "drop 3 = NULL",
                "set 3 0 1 = NULL", "drop 4 = 0", "count 0 = 0", "drop 4 = NULL", "drop 8 = BAD", "drop -1 = BAD",
                "row 3 0 2 = 2", "set 3 0 5 = 5", "drop 3 = 2");
    }

    private static void status() {
        Check.run("promise 33", "status = 0", "row 0 0 -1 = SIZE", "status = 4", "row 9 0 1 = BAD", "status = 4",
                "count 0 = 0", "status = 4", "row 0 0 4 = 4", "status = 0", "set 0 4 0 = PLACE", "status = 2",
                "set 8 0 0 = BAD", "status = 2", "set 0 3 0 = 0", "status = 0", "set 1 0 0 = NULL", "status = 1",
                "row 1 1 4 = 4", "copy 0 0 1 0 1 = STORE", "status = 5", "copy 0 0 9 0 1 = BAD", "status = 5",
                "copy 0 0 0 1 3 = 3", "status = 0", "drop 2 = NULL", "status = 1", "drop 1 = 4", "status = 0",
                "drop 1 = NULL", "drop -1 = BAD", "stands 9 0 = STATE", "hidden 0 0 9 0 = STATE", "as 0 0 = STATE",
                "status = 1");
        Check.run("promise 33, of foretold and as()", "row 0 0 16 = 16", "read a0,0,0,0;b0,0,0,0;w0,0,5; = 1",
                "drop 1 = NULL", "status = 1", "stands 0 0 = 40", "status = 0", "stands 0 1 = PLACE", "status = 2",
                "hidden 1 0 0 0 = 65534", "status = 0", "hidden 1 0 5 0 = NULL", "status = 1",
                "hidden 6 0 0 0 = BAD", "hidden 1 0 8 0 = BAD", "stands 8 0 = BAD", "status = 1",
                "as 0 4 = KIND", "status = 3", "as 0 6 = BAD", "as 1 0 = STATE", "status = 3", "gust 9 0 = BAD",
                "gust 0 0 = 0", "wind 0 0 = 0", "leaves 0 0 = 0", "most 0 0 = 1", "ask 0 0 = 5", "status = 3",
                "as 0 1 = 0", "status = 0");
    }
}
