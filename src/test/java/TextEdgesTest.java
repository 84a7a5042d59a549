/** The boundary cases that the document names of TEXTS and FAULTS, sentence by sentence: promises 6 to 8. */
public final class TextEdgesTest {
    private static final String WINDS = "a1,2,3,4;b5,6,7,8;";
    private static final String SIX = WINDS + "w0,0,1;n0,1,1;s0,2,1;h0,3,1;v1,0,1;w1,1,1;";

    public static void main(String[] args) {
        tape();
        empty();
        shorter();
        tokens();
        figures();
        winds();
        works();
        room();
        cut();
        order();
        inPlace();
        fault();
        Check.end();
    }

    private static void tape() {
        Check.edge("promise 6", "A byte (0 to 255)", "feed 0 = 1", "feed 255 = 2", Check.beyond("feed #",
                0, 255, "BAD"),
                "count 6 = 2");
        Check.edge("promise 6", "at most 120 bytes; FULL", Check.each(1, 120, "feed 97 = #"), "feed 97 = FULL",
                "count 6 = 120", "feed 256 = BAD", "feed -1 = BAD",
                "feed 0 = FULL", "count 6 = 120", "pass = -1000101", "count 6 = 0", "feed 97 = 1");
        Check.edge("promise 6", "what is refused changes nothing: the tape is read as it was", "text " + WINDS,
                "feed 256 = BAD", "feed -1 = BAD", "pass = 0", "wind 3 1 = 8");
        Check.edge("promise 6", "FULL: a byte that is refused is not kept", Check.each(1, 120, "feed 97 = #"),
                "feed 98 = FULL", "pass = -1000101",
                "read " + WINDS + " = 0");
        Check.edge("promise 7", "the tape, 120 bytes of it: the fault is behind six works", "text "
                + "a01,02,03,04;b05,06,07,08;w00,00,01;n00,01,02;s00,02,03;h00,03,04;v01,00,05;w01,01,06;",
                "count 6 = 86", Check.each(87, 120, "feed 119 = #"), "feed 119 = FULL",
                "pass = -1000186", "fault = 3");
    }

    private static void empty() {
        Check.edge("promise 7", "the tape, empty then", "read " + WINDS + " = 0", "count 6 = 0", "pass = -1000100",
                "fault = 1", "count 6 = 0", "wind 0 0 = 1");
        Check.edge("promise 7", "the end: how many bytes there are: none", "pass = -1000100", "fault = 1",
                "pass = -1000100",
                "gust 0 0 = STATE");
        Check.edge("promise 7", "the tape, empty then, behind a FAULT, too", "read a1x = -1000102", "count 6 = 0",
                "read " + WINDS + " = 0", "count 6 = 0");
    }

    private static void shorter() {
        String sentence = "the tape, empty then: nothing of a longer one is read";
        Check.edge("promise 7", sentence, "read a12;3,4,5;x = -1000103", "read a1 = -1000102", "fault = 1",
                "read a = -1000101", "pass = -1000100");
        Check.edge("promise 7", sentence, "read a1,2,3,4;b5,6,7,89;w0,0,1; = -1000116", "fault = 2",
                "read a1,2,3,4;b5,6,7,8 = -1000117", "fault = 1", "read a1,2,3,4;b5,6,7,8; = 0");
        Check.edge("promise 7", sentence, "read " + WINDS + "w0,0,1;w0,1,1; = 2", "read " + WINDS + "w0,0,1; = 1",
                "read " + WINDS + " = 0", "read " + WINDS + "w0,0,1 = -1000124");
        Check.edge("promise 7", sentence + " (120 figures)", Check.each(1, 120, "feed 49 = #"), "pass = -1000100",
                "read a1 = -1000102", "read a11 = -1000103", "read a1,1 = -1000104");
    }

    /** In place of each TOKEN, by turns, what can nowhere stand, or not there. */
    private static void tokens() {
        String text = WINDS + "w0,1,2;";
        for (int letter = 0; letter <= 255; letter++) {
            boolean starts = letter == 'a';
            faultOf("a byte that begins no text", new int[] {letter}, starts ? 1 : 0, 1);
            boolean figure = letter >= '0' && letter <= '9';
            for (int place : new int[] {0, 2, 8, 9, 11, 17, 20, 22, 24}) {
                int[] bytes = bytes(text);
                // A figure behind a figure is of the NUMBER before it, which is told below (winds, works, figures).
                boolean behind = place > 0 && bytes[place - 1] >= '0' && bytes[place - 1] <= '9' && figure;
                if (letter != bytes[place] && !behind) {
                    bytes[place] = letter;
                    faultOf("1 it cannot stand there, or is none", bytes, place, 1);
                }
            }
            boolean sort = letter == 'w' || letter == 'n' || letter == 's' || letter == 'h' || letter == 'v';
            int[] bytes = bytes(text);
            bytes[18] = letter;
            if (sort) {
                Check.due("promise 7, \"SORT\": " + (char) letter, read(bytes), 1);
            } else {
                faultOf("1 it cannot stand there: no SORT", bytes, 18, 1);
            }
            for (int place : new int[] {1, 3, 5, 7, 10, 12, 14, 16, 19, 21, 23}) {
                int[] numbers = bytes(text);
                numbers[place] = letter;
                if (!figure) {
                    faultOf("1 it cannot stand there: no NUMBER", numbers, place, 1);
                }
            }
        }
        Check.edge("promise 7", "no blanks", "read a1,_2,3,4; = -1000103", "read _" + WINDS + " = -1000100",
                "read " + WINDS + "_ = -1000118", "read a_1,2,3,4; = -1000101");
        Check.edge("promise 7", "letters a to z (each by itself)", "read aa1,2,3,4; = -1000101",
                "read " + WINDS + "ww0,0,1; = -1000119", "read a1,2,3,4;bb5,6,7,8; = -1000110");
    }

    private static void figures() {
        String[] texts = {"a#,2,3,4;b5,6,7,8;", "a1,#,3,4;b5,6,7,8;", "a1,2,#,4;b5,6,7,8;", "a1,2,3,#;b5,6,7,8;",
            "a1,2,3,4;b#,6,7,8;", "a1,2,3,4;b5,#,7,8;", "a1,2,3,4;b5,6,#,8;", "a1,2,3,4;b5,6,7,#;",
            WINDS + "w#,0,1;", WINDS + "w0,#,1;", WINDS + "w0,0,#;"};
        for (String text : texts) {
            int place = text.indexOf('#');
            int works = text.contains("w") ? 1 : 0;
            for (String run : new String[] {"000", "001", "010", "100", "999", "0000", "000000000000"}) {
                faultOf("1 a run of three figures, at its first", bytes(text.replace("#", run)), place, 1);
                faultOf("1 a run of three figures, at its first, where the text ends",
                bytes(text.substring(0, place) + run),
                        place, 1);
            }
            for (String run : new String[] {"0", "00", "1", "01", "3", "03"}) {
                Check.due("promise 7, \"NUMBERS (figures, 2 at most)\": " + run + " in " + text,
                        read(bytes(text.replace("#", run))), works);
            }
            faultOf("1 it cannot stand there: no NUMBER", bytes(text.replace("#", "")), place, 1);
        }
        faultOf("1 a run of three figures where no NUMBER can stand", bytes("123"), 0, 1);
        faultOf("1 a run of three figures behind the winds", bytes(WINDS + "123"), 18, 1);
        faultOf("1 a NUMBER where none can stand", bytes(WINDS + "12"), 18, 1);
        faultOf("1 a NUMBER where none can stand", bytes("0"), 0, 1);
    }

    private static void winds() {
        for (int which = 0; which < 8; which++) {
            StringBuilder text = new StringBuilder();
            int place = 0;
            for (int i = 0; i < 8; i++) {
                text.append(i == 0 ? "a" : i == 4 ? "b" : "");
                place = i == which ? text.length() : place;
                text.append(i == which ? "#" : "7").append(i % 4 == 3 ? ";" : ",");
            }
            String wind = "wind " + which % 4 + " " + which / 4;
            Check.edge("promise 7", "0 to 31", "read " + text.toString().replace("#", "31") + " = 0", wind + " = 31",
                    "read " + text.toString().replace("#", "0") + " = 0", wind + " = 0");
            for (String beyond : new String[] {"32", "33", "40", "99"}) {
                faultOf("2 a NUMBER that is not as told", bytes(text.toString().replace("#", beyond)), place, 2);
            }
        }
        Check.edge("promise 7", "GUST of each row of the pass, 0, north, to 3; RISE",
                "read a0,10,20,31;b31,21,11,0; = 0", "wind 0 0 = 0", "wind 1 0 = 10", "wind 2 0 = 20", "wind 3 0 = 31",
                "wind 0 1 = 31", "wind 1 1 = 21", "wind 2 1 = 11", "wind 3 1 = 0");
    }

    private static void works() {
        for (int cell = 0; cell <= 15; cell++) {
            String at = cell / 4 + "," + cell % 4 + ",";
            Check.edge("promise 7", "X, Y: 0 to 3 each", "read " + WINDS + "h" + at + "5; = 1", "kind " + cell + " = 4",
                    "cell " + cell + " 2 = 5");
            Check.edge("promise 7", "a Y with which the cell has a work",
                    "read " + WINDS + "h" + at + "5;n" + at + "6; = -1000128", "fault = 2", "gust 0 0 = STATE");
        }
        String[] sorts = {"w", "n", "s", "h", "v"};
        for (int kind = 1; kind <= 5; kind++) {
            Check.edge("promise 7", "SORT", "read " + WINDS + sorts[kind - 1] + "2,1,5; = 1", "kind 9 = " + kind);
        }
        for (String beyond : new String[] {"4", "04", "5", "10", "99"}) {
            faultOf("2 a NUMBER that is not as told: X", bytes(WINDS + "w" + beyond + ",0,1;"), 19, 2);
            faultOf("2 a NUMBER that is not as told: Y", bytes(WINDS + "w0," + beyond + ",1;"), 21, 2);
        }
        Check.edge("promise 7", "HOLDS: 0 to 99", "read " + WINDS + "w0,0,0;w0,1,99;w0,2,00; = 3", "cell 0 2 = 0",
                "cell 1 2 = 99", "cell 2 2 = 0");
        faultOf("1 HOLDS of three figures", bytes(WINDS + "w0,0,100;"), 23, 1);
        faultOf("2 a Y with which the cell has a work, told as 00", bytes(WINDS + "w1,0,1;n01,00,1;"), 29, 2);
        faultOf("2 a Y with which the cell has a work, not the one before", bytes(WINDS + "w1,2,1;n2,1,1;s1,2,1;"),
                35, 2);
        Check.edge("promise 7", "a cell without a work", "read " + WINDS + "w1,2,1;n2,1,1;s1,1,1;h2,2,1; = 4");
    }

    private static void room() {
        Check.edge("promise 7", "WORKS 0 .. 5, 6 at most", "read " + WINDS + " = 0", "read " + SIX + " = 6",
                "count 1 = 6");
        for (String letter : new String[] {"w", "n", "s", "h", "v"}) {
            faultOf("3 a work more than there is room for (its letter)", bytes(SIX + letter + "3,3,1;"), 60, 3);
            faultOf("3 a work more, and the text ends", bytes(SIX + letter), 60, 3);
            faultOf("3 a work more, ahead of what is wrong in it", bytes(SIX + letter + "9,9,x"), 60, 3);
            faultOf("3 a work more, on a cell that has a work", bytes(SIX + letter + "0,0,1;"), 60, 3);
        }
        faultOf("of one TOKEN the least: 1 ahead of 3", bytes(SIX + "x"), 60, 1);
        faultOf("of one TOKEN the least: 1 ahead of 3", bytes(SIX + "a"), 60, 1);
        faultOf("of one TOKEN the least: 1 ahead of 3", bytes(SIX + "5"), 60, 1);
        faultOf("of one TOKEN the least: 1 ahead of 3", bytes(SIX + "555"), 60, 1);
        faultOf("of one TOKEN the least: 1 ahead of 3", bytes(SIX + ";"), 60, 1);
    }

    private static void cut() {
        for (int length = 0; length < SIX.length(); length++) {
            String text = SIX.substring(0, length);
            int works = (length - WINDS.length()) / 7;
            if (length >= WINDS.length() && text.endsWith(";")) {
                Check.due("promise 7, a text that ends behind a work: " + text, read(bytes(text)), works);
            } else {
                faultOf("the end: how many bytes there are", bytes(text), length, 1);
            }
        }
        faultOf("the end, behind a NUMBER of two figures", bytes("a12"), 3, 1);
    }

    private static void order() {
        faultOf("the first TOKEN that has one", bytes("a32,99,x"), 1, 2);
        faultOf("the first TOKEN that has one", bytes("a1,x2,99,4;"), 3, 1);
        faultOf("the first TOKEN that has one", bytes("a1,99,x"), 3, 2);
        faultOf("the first TOKEN that has one", bytes("a32"), 1, 2);
        for (String rest : new String[] {"", "x", ";", ",", ",100;", "a"}) {
            faultOf("the first TOKEN that has one: a Y with which the cell has a work",
                    bytes(WINDS + "w0,0,1;n0,0" + rest), 28, 2);
        }
        faultOf("of one TOKEN the least: 1 ahead of 2", bytes("a320,2,3,4;"), 1, 1);
        faultOf("of one TOKEN the least: 1 ahead of 2", bytes(WINDS + "w0,0,1;n0,000"), 28, 1);
        faultOf("its first byte: a NUMBER of two figures", bytes("a1,2,45,4;"), 5, 2);
        faultOf("its first byte: a NUMBER of two figures", bytes(WINDS + "w0,12,1;"), 21, 2);
    }

    private static void inPlace() {
        Check.edge("promise 7", "in place of the one before: HOUR 0, shutters are shut; no ACT can be undone",
                "read " + WINDS + "s0,0,99;s0,1,9; = 2", "turn 0 = 1", "hours 3 = 1", "count 5 = 4",
                "read a9,9,9,9;b1,1,1,1;s0,0,50; = 1", "count 2 = 0", "cell 0 3 = 0", "cell 0 2 = 50", "count 5 = 0",
                "undo = STATE", "count 1 = 1", "kind 1 = NONE", "wind 3 0 = 9", "wind 0 1 = 1");
        Check.edge("promise 7", "IMAGES and ROWS stay", "read " + WINDS + "w0,0,99; = 1", "image 0 = 1", "image 1 = 1",
                "row 2 2 3 = 3", "set 2 2 77 = 77", "read a9,9,9,9;b0,0,0,0; = 0", "count 0 = 1", "drop 2 = 3",
                "restore 0 = 1", "kind 0 = 1", "wind 0 0 = 1", "restore 1 = 1");
        Check.edge("promise 7", "a FAULT: all but the tape and what fault() tells stays",
                "read " + WINDS + "s0,0,99;w1,1,40; = 2", "turn 0 = 1", "hours 1 = 2", "image 0 = 1", "ask 5 0 = 53",
                "row 0 0 -1 = SIZE", "read a9,9,9,9;b0,0,0,0;n0,0,9;n0,0,9; = -1000128", "fault = 2", "count 6 = 0",
                "status = 4", "trace 0 = 11", "count 5 = 2", "count 2 = 1", "count 1 = 2", "wind 0 0 = 6",
                "wind 0 1 = 5",
                "kind 0 = 3", "cell 0 3 = 1", "cell 5 2 = 40", "kind 1 = NONE", "undo = 1", "undo = 0", "cell 0 3 = 0",
                "restore 0 = 1", "cell 0 3 = 1");
        Check.edge("promise 7", "a FAULT with no PASS before", "read a1 = -1000102", "gust 0 0 = STATE",
                "image 0 = STATE",
                "count 2 = 0", "count 1 = 0");
    }

    private static void fault() {
        Check.edge("promise 8", "0 before one", "fault = 0", "read " + WINDS + " = 0", "fault = 0", "feed 256 = BAD",
                "row 0 0 -1 = SIZE", "gust 9 0 = BAD", "fault = 0");
        Check.edge("promise 8", "the latest FAULT", "pass = -1000100", "fault = 1", "read a32 = -1000101", "fault = 2",
                "read " + SIX + "w = -1000160", "fault = 3", "read " + WINDS + " = 0", "fault = 3", "pass = -1000100",
                "fault = 1", "fault = 1");
    }

    private static int[] bytes(String text) {
        return text.chars().toArray();
    }

    private static int read(int[] bytes) {
        WindCarver x = new WindCarver();
        for (int letter : bytes) {
            x.feed(letter);
        }
        return x.pass();
    }

    private static void faultOf(String sentence, int[] bytes, int place, int number) {
        WindCarver x = new WindCarver();
        StringBuilder text = new StringBuilder();
        for (int letter : bytes) {
            x.feed(letter);
            text.append((char) letter);
        }
        String what = "promise 7, \"" + sentence + "\": " + text;
        Check.due(what, x.pass(), -1000100 - place);
        Check.due(what + ", fault()", x.fault(), number);
        Check.due(what + ", no PASS", x.gust(0, 0), WindCarver.STATE);
    }
}
