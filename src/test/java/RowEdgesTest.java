/** The boundary cases that the document names of ROWS, sentence by sentence: promises 1 to 5. */
public final class RowEdgesTest {
    private static final String STILL = "read a0,0,0,0;b0,0,0,0; = 0";
    private static final int MOST = Integer.MAX_VALUE, LEAST = Integer.MIN_VALUE;

    public static void main(String[] args) {
        newObject();
        rows();
        lanes();
        items();
        inPlace();
        set();
        copyPlaces();
        copyAhead();
        copyOrder();
        drop();
        Check.end();
    }

    private static void newObject() {
        Check.edge("promise 1", "No PASS", "setUp 0 1 1 = STATE", "take 0 = STATE", "turn 0 = STATE",
                "gust 0 0 = STATE", "hours 1 = STATE", "cell 0 0 = STATE", "wind 0 0 = STATE", "felt 0 0 = STATE",
                "lost 0 = STATE", "leaves 0 0 = STATE", "breaks 0 = STATE", "stands 0 0 = STATE",
                "walls 0 0 -1 = STATE", "hidden 1 0 0 0 = STATE", "most 0 0 = STATE", "lots 0 0 0 0 = STATE",
                "image 0 = STATE", "image 1 = STATE", "kind 0 = STATE", "as 0 0 = STATE", "ask 0 0 = STATE");
        Check.edge("promise 1", "none at first: nothing is kept, told, or asked yet", "undo = STATE",
                "restore 0 = STATE", "restore 1 = STATE", "fault = 0", "status = 0",
                Check.each(0, 15, "trace # = NONE"),
                Check.each(0, 6, "count # = 0"));
    }

    private static void rows() {
        Check.edge("promise 2", "ROWS 0 .. 7 are missing (at first)", Check.each(0, 7, "set # 0 1 = NULL"),
                Check.each(0, 7, "drop # = NULL"), Check.each(0, 7, "copy # 0 # 0 0 = NULL"), "count 0 = 0", STILL,
                Check.each(0, 7, "stands # 0 = NULL"), Check.each(0, 7, "hidden 1 0 # 0 = NULL"));
        Check.edge("promise 2", "ROWS 0 .. 7", Check.each(0, 7, "row # 0 1 = 1"), "count 0 = 8",
                Check.beyond("row # 0 1", 0, 7, "BAD"), "count 0 = 8");
        Check.edge("promise 3", "BAD: ROW", "row 0 0 1 = 1", "row 7 0 1 = 1", "set 0 0 5 = 5", "set 7 0 5 = 5",
                Check.beyond("set # 0 5", 0, 7, "BAD"));
        Check.edge("promise 4", "BAD: ROWS", "row 0 0 1 = 1", "row 7 0 1 = 1", "copy 0 0 7 0 1 = 1",
                "copy 7 0 0 0 1 = 1", Check.beyond("copy # 0 0 0 1", 0, 7, "BAD"),
                Check.beyond("copy 0 0 # 0 1", 0, 7, "BAD"));
        Check.edge("promise 5", "BAD", "row 0 0 1 = 1", "row 7 0 1 = 1", Check.beyond("drop #", 0, 7, "BAD"),
                "count 0 = 2", "drop 0 = 1", "drop 7 = 1");
    }

    private static void lanes() {
        Check.edge("promise 2", "LANE (0 bytes, 1 shorts, 2 ints)", "row 0 0 1 = 1", "row 1 1 1 = 1", "row 2 2 1 = 1",
                "set 0 0 32768 = 0", "set 1 0 32768 = -32768", "set 2 0 32768 = 32768",
                Check.beyond("row 3 # 1", 0, 2, "BAD"), "count 0 = 3");
        Check.edge("promise 2", "BAD: LANE, what is there stays", "row 0 1 2 = 2", Check.beyond("row 0 # 1",
                0, 2, "BAD"),
                "set 0 1 32768 = -32768");
    }

    private static void items() {
        Check.edge("promise 2", "0 ITEMS", "row 0 0 0 = 0", "count 0 = 1", "set 0 0 1 = PLACE", "copy 0 0 0 0 0 = 0",
                "copy 0 0 0 0 1 = PLACE", "drop 0 = 0");
        Check.edge("promise 2", "to 40 ITEMS", "row 0 2 40 = 40", "set 0 39 7 = 7", "set 0 40 7 = PLACE",
                "drop 0 = 40");
        Check.edge("promise 2", "BAD: n above 40", "row 0 0 41 = BAD", "row 0 0 " + MOST + " = BAD", "count 0 = 0",
                "row 0 0 39 = 39", "row 0 0 41 = BAD", "drop 0 = 39");
        Check.edge("promise 2", "SIZE: fewer than none", "row 0 0 -1 = SIZE", "row 0 0 " + LEAST + " = SIZE",
                "row 0 0 -40 = SIZE", "count 0 = 0", "set 0 0 1 = NULL");
        Check.edge("promise 2", "BAD is the first of these that fits, then SIZE", "row 8 0 -1 = BAD",
                "row -1 0 -1 = BAD",
                "row 0 3 -1 = BAD", "row 0 -1 -1 = BAD", "row 0 0 -1 = SIZE", "row 8 0 41 = BAD");
        for (int lane = 0; lane <= 2; lane++) {
            Check.edge("promise 2", "ITEMS, 0 at first", STILL, "row 0 " + lane + " 40 = 40", "stands 0 0 = 40",
                    "stands 0 16 = 40", "stands 0 24 = 40");
        }
    }

    private static void inPlace() {
        Check.edge("promise 2", "in place of what is there: 0 at first again", STILL, "row 0 0 40 = 40",
                Check.each(0, 39, "set 0 # 9 = 9"), "stands 0 0 = 0", "row 0 0 40 = 40", "stands 0 0 = 40",
                "stands 0 24 = 40");
        Check.edge("promise 2", "in place of what is there: a longer one", STILL, "row 0 0 1 = 1", "set 0 0 9 = 9",
                "row 0 0 40 = 40", "stands 0 0 = 40", "count 0 = 1", "drop 0 = 40", "drop 0 = NULL");
        Check.edge("promise 2", "in place of what is there: a shorter one, longer again", STILL, "row 0 0 40 = 40",
                "set 0 39 9 = 9", "row 0 0 3 = 3", "set 0 3 1 = PLACE", "row 0 0 40 = 40", "stands 0 24 = 40");
        Check.edge("promise 2", "in place of what is there: of another LANE", "row 0 2 2 = 2", "row 1 0 2 = 2",
                "copy 0 0 1 0 1 = STORE", "row 0 0 2 = 2", "copy 0 0 1 0 1 = 1", "set 0 0 256 = 0", "count 0 = 2");
        Check.edge("promise 2", "what is refused, or found, changes nothing", STILL, "row 0 1 2 = 2", "set 0 1 9 = 9",
                "row 0 0 -1 = SIZE", "row 0 0 41 = BAD", "row 0 3 1 = BAD", "item 0 1 1 = 9", "item 0 1 0 = 0",
                "drop 0 = 2");
    }

    private static void set() {
        Check.edge("promise 3", "its lowest bits: a byte", "row 0 0 1 = 1", "set 0 0 127 = 127", "set 0 0 128 = -128",
                "set 0 0 255 = -1", "set 0 0 256 = 0", "set 0 0 257 = 1", "set 0 0 -1 = -1", "set 0 0 -128 = -128",
                "set 0 0 -129 = 127", "set 0 0 -256 = 0", "set 0 0 " + MOST + " = -1", "set 0 0 " + LEAST + " = 0");
        Check.edge("promise 3", "its lowest bits: a short", "row 0 1 1 = 1", "set 0 0 32767 = 32767",
                "set 0 0 32768 = -32768", "set 0 0 65535 = -1", "set 0 0 65536 = 0", "set 0 0 65537 = 1",
                "set 0 0 -1 = -1", "set 0 0 -32768 = -32768", "set 0 0 -32769 = 32767", "set 0 0 -65536 = 0",
                "set 0 0 " + MOST + " = -1", "set 0 0 " + LEAST + " = 0", "set 0 0 128 = 128", "set 0 0 256 = 256");
        Check.edge("promise 3", "its lowest bits: an int has all", "row 0 2 1 = 1", "set 0 0 " + MOST + " = " + MOST,
                "set 0 0 " + LEAST + " = " + LEAST, "set 0 0 65536 = 65536", "set 0 0 -1 = -1");
        Check.edge("promise 3", "ITEM i becomes v, what it is then", STILL, "row 0 0 3 = 3", "set 0 1 261 = 5",
                "item 0 0 0 = 0", "item 0 0 1 = 5", "item 0 0 2 = 0");
        Check.edge("promise 3", "PLACE: no such place of a ROW", STILL, "row 0 0 3 = 3", "set 0 0 1 = 1",
                "set 0 2 2 = 2", Check.beyond("set 0 # 9", 0, 2, "PLACE"), "item 0 0 0 = 1", "item 0 0 1 = 0",
                "item 0 0 2 = 2");
        Check.edge("promise 3", "NULL: a ROW that is missing, ahead of PLACE", "set 3 0 1 = NULL", "set 3 -1 1 = NULL",
                "set 3 40 1 = NULL", "set 8 -1 1 = BAD");
    }

    private static void copyPlaces() {
        Check.edge("promise 4", "PLACE: i below 0, or beyond an end", "row 0 0 3 = 3", "row 1 0 5 = 5",
                "copy 0 2 1 0 1 = 1", "copy 0 3 1 0 1 = PLACE", "copy 0 -1 1 0 1 = PLACE", "copy 0 -1 1 0 0 = PLACE",
                "copy 0 1 1 0 2 = 2", "copy 0 1 1 0 3 = PLACE", "copy 0 " + MOST + " 1 0 1 = PLACE",
                "copy 0 " + MOST + " 1 0 0 = PLACE", "copy 0 " + LEAST + " 1 0 0 = PLACE");
        Check.edge("promise 4", "PLACE: j below 0, or beyond an end", "row 0 0 5 = 5", "row 1 0 3 = 3",
                "copy 0 0 1 2 1 = 1", "copy 0 0 1 3 1 = PLACE", "copy 0 0 1 -1 1 = PLACE", "copy 0 0 1 -1 0 = PLACE",
                "copy 0 0 1 1 2 = 2", "copy 0 0 1 1 3 = PLACE", "copy 0 0 1 " + MOST + " 1 = PLACE",
                "copy 0 0 1 " + MOST + " 0 = PLACE", "copy 0 0 1 " + LEAST + " 0 = PLACE");
        Check.edge("promise 4", "PLACE: n below 0, or beyond an end", "row 0 0 40 = 40", "row 1 0 40 = 40",
                "copy 0 0 1 0 40 = 40", "copy 0 0 1 0 41 = PLACE", "copy 0 0 1 0 -1 = PLACE",
                "copy 0 5 1 5 -1 = PLACE", "copy 0 1 1 1 " + MOST + " = PLACE", "copy 0 0 1 0 " + LEAST + " = PLACE",
                "copy 0 " + MOST + " 1 0 " + LEAST + " = PLACE",
                "copy 0 " + MOST + " 1 " + MOST + " " + MOST + " = PLACE",
                "copy 0 40 1 40 -40 = PLACE");
        Check.edge("promise 4", "no ITEMS, at the very end", "row 0 0 3 = 3", "row 1 0 5 = 5", "copy 0 3 1 5 0 = 0",
                "copy 0 4 1 5 0 = PLACE", "copy 0 3 1 6 0 = PLACE", "row 2 0 0 = 0", "copy 2 0 1 0 0 = 0",
                "copy 1 0 2 0 0 = 0", "copy 1 0 2 0 1 = PLACE", "copy 2 0 1 0 1 = PLACE");
        Check.edge("promise 4", "what is found changes nothing", STILL, "row 0 0 3 = 3", "row 1 0 2 = 2",
                "set 0 0 1 = 1",
                "set 0 1 2 = 2", "set 0 2 3 = 3", "copy 0 0 1 0 3 = PLACE", "item 1 0 0 = 0", "item 1 0 1 = 0",
                "copy 0 1 1 1 2 = PLACE", "item 1 0 0 = 0", "item 1 0 1 = 0");
    }

    private static void copyAhead() {
        String[] told = {STILL, "row 0 0 5 = 5", "set 0 0 1 = 1", "set 0 1 2 = 2", "set 0 2 3 = 3", "set 0 3 4 = 4",
            "set 0 4 5 = 5"};
        Check.edge("promise 4", "as they were ahead: to the right", told, "copy 0 0 0 1 4 = 4", "item 0 0 0 = 1",
                "item 0 0 1 = 1", "item 0 0 2 = 2", "item 0 0 3 = 3", "item 0 0 4 = 4");
        Check.edge("promise 4", "as they were ahead: to the left", told, "copy 0 1 0 0 4 = 4", "item 0 0 0 = 2",
                "item 0 0 1 = 3", "item 0 0 2 = 4", "item 0 0 3 = 5", "item 0 0 4 = 5");
        Check.edge("promise 4", "as they were ahead: onto themselves", told, "copy 0 1 0 1 3 = 3", "item 0 0 0 = 1",
                "item 0 0 1 = 2", "item 0 0 2 = 3", "item 0 0 3 = 4", "item 0 0 4 = 5");
        Check.edge("promise 4", "n ITEMS of a from i on come to b from j on", told, "row 1 0 5 = 5", "set 1 4 9 = 9",
                "copy 0 1 1 2 2 = 2", "item 1 0 0 = 0", "item 1 0 1 = 0", "item 1 0 2 = 2", "item 1 0 3 = 3",
                "item 1 0 4 = 9", "item 0 0 1 = 2", "item 0 0 2 = 3");
        Check.edge("promise 4", "n ITEMS: none", told, "row 1 0 5 = 5", "copy 0 0 1 0 0 = 0", "item 1 0 0 = 0");
        Check.edge("promise 4", "ITEMS of each LANE", STILL, "row 0 1 1 = 1", "row 1 1 1 = 1", "set 0 0 25 = 25",
                "copy 0 0 1 0 1 = 1", "item 1 1 0 = 25", "row 2 2 1 = 1", "row 3 2 1 = 1", "set 2 0 26 = 26",
                "copy 2 0 3 0 1 = 1", "item 3 2 0 = 26");
    }

    private static void copyOrder() {
        Check.edge("promise 4", "NULL, of a or of b", "row 0 0 1 = 1", "copy 1 0 0 0 1 = NULL", "copy 0 0 1 0 1 = NULL",
                "copy 1 0 1 0 0 = NULL");
        for (int a = 0; a <= 2; a++) {
            for (int b = 0; b <= 2; b++) {
                Check.edge("promise 4", "STORE: ROWS of two LANES", "row 0 " + a + " 2 = 2", "row 1 " + b + " 2 = 2",
                        "copy 0 0 1 0 1 = " + (a == b ? "1" : "STORE"), "copy 1 0 0 0 0 = " + (a == b ? "0" : "STORE"));
            }
        }
        Check.edge("promise 4", "of several the first in time: BAD, NULL, STORE, PLACE", "row 0 0 1 = 1",
                "row 1 1 1 = 1",
                "copy 8 -1 5 -1 -1 = BAD", "copy 5 -1 8 -1 -1 = BAD", "copy 5 -1 0 -1 -1 = NULL",
                "copy 1 -1 5 -1 -1 = NULL", "copy 0 -1 1 -1 -1 = STORE", "copy 0 9 1 9 9 = STORE",
                "copy 0 -1 0 -1 -1 = PLACE");
    }

    private static void drop() {
        Check.edge("promise 5", "NULL: a ROW that is missing", "drop 0 = NULL", "row 0 0 1 = 1", "drop 0 = 1",
                "drop 0 = NULL", "drop 1 = NULL");
        Check.edge("promise 5", "missing from now on", STILL, "row 0 0 16 = 16", "row 1 0 16 = 16", "drop 0 = 16",
                "count 0 = 1", "set 0 0 1 = NULL", "copy 0 0 1 0 0 = NULL", "copy 1 0 0 0 0 = NULL",
                "stands 0 0 = NULL", "hidden 1 0 0 0 = NULL", "stands 1 0 = 40");
        Check.edge("promise 5", "how many ITEMS it had: none to 40", "row 0 0 0 = 0", "row 1 1 40 = 40",
                "row 2 2 1 = 1",
                "drop 0 = 0", "drop 1 = 40", "drop 2 = 1", "count 0 = 0");
    }
}
