/** Promises 6 to 8: the tape, and the PASS that is read from it. */
public final class TextTest {
    private static final String WINDS = "a1,2,3,4;b5,6,7,8;";

    public static void main(String[] args) {
        feed();
        pass();
        unfit();
        notAsTold();
        noRoom();
        stays();
        Check.end();
    }

    private static void feed() {
        Check.run("promise 6", "feed 0 = 1", "feed 255 = 2", "feed 256 = BAD", "feed -1 = BAD",
                "feed 2147483647 = BAD", "count 6 = 2", "feed 97 = 3", "count 6 = 3", "pass = -1000100", "feed 97 = 1");
        WindCarver x = new WindCarver();
        for (int i = 1; i <= 120; i++) {
            Check.due("promise 6: feed", x.feed('w'), i);
        }
        Check.due("promise 6: feed behind 120", x.feed('w'), WindCarver.FULL);
        Check.due("promise 6: a wrong byte behind 120", x.feed(256), WindCarver.BAD);
        Check.due("promise 6: count", x.count(6), 120);
        Check.due("promise 6: pass", x.pass(), -1000100);
        Check.due("promise 6: feed behind pass", x.feed('w'), 1);
        // 18 bytes of winds and zeros in front of all that may have two figures fill the tape but for a few.
        Check.run("promise 7, all of 120", "read a01,02,03,04;b05,06,07,08;w00,00,00;n00,01,01;s00,02,02;"
                + "h00,03,03;v01,00,04;w01,01,05; = 6", "cell 5 2 = 5", "count 6 = 0");
    }

    private static void pass() {
        Check.run("promise 7", "read " + WINDS + " = 0", "wind 0 0 = 1", "wind 1 0 = 2", "wind 2 0 = 3",
                "wind 3 0 = 4", "wind 0 1 = 5", "wind 1 1 = 6", "wind 2 1 = 7", "wind 3 1 = 8", "count 6 = 0",
                "fault = 0", "count 2 = 0", "count 5 = 0");
        Check.run("promise 7, works", "read a31,0,09,00;b0,31,0,00;w0,1,2;n1,3,99;s2,0,0;h3,3,05;v3,0,10; = 5",
                "wind 0 0 = 31", "wind 2 0 = 9", "wind 1 1 = 31",
                "cell 1 1 = 1", "cell 1 2 = 2", "cell 7 1 = 2", "cell 7 2 = 99", "cell 8 1 = 3", "cell 8 2 = 0",
                "cell 8 3 = 0", "cell 15 1 = 4", "cell 15 2 = 5", "cell 12 1 = 5", "cell 12 2 = 10", "count 1 = 5");
        Check.run("promise 7, HOUR 0", "read " + WINDS + " = 0", "hours 5 = 0", "felt 0 3 = 9",
                "read " + WINDS + " = 0", "count 2 = 0", "wind 0 0 = 1", "felt 0 3 = 16", "image 1 = 1",
                "text a", "hours 1 = 0", "pass = -1000101", "count 2 = 1", "wind 0 0 = 6");
        Check.run("promise 7, in place of the one before",
                "read " + WINDS + "s0,0,99;w1,1,99; = 2", "turn 0 = 1", "hours 3 = 2", "image 0 = 1", "row 0 0 3 = 3",
                "count 2 = 3", "count 5 = 4", "read a9,9,9,9;b0,0,0,0;s0,0,9; = 1", "count 2 = 0", "count 5 = 0",
                "undo = STATE", "cell 0 3 = 0", "cell 5 1 = NONE", "wind 0 0 = 9", "wind 3 1 = 0", "count 0 = 1",
                "restore 0 = 1", "count 2 = 3", "cell 0 3 = 1");
    }

    private static void unfit() {
        fault("", 0, 1);
        fault("b", 0, 1);
        fault("A1,2,3,4;", 0, 1);
        fault("1", 0, 1);
        fault(",", 0, 1);
        fault("_" + WINDS, 0, 1);
        fault("a", 1, 1);
        fault("a,", 1, 1);
        fault("aa", 1, 1);
        fault("a1", 2, 1);
        fault("a1;", 2, 1);
        fault("a1b", 2, 1);
        fault("a1,2,3;", 6, 1);
        fault("a1,2,3,4,", 8, 1);
        fault("a1,2,3,4", 8, 1);
        fault("a1,2,3,4;", 9, 1);
        fault("a1,2,3,4;a", 9, 1);
        fault("a1,2,3,4;w", 9, 1);
        fault("a1,2,3,4;b5,6,7,8", 17, 1);
        fault("a100,2,3,4;", 1, 1);
        fault("a1,0002,3,4;", 3, 1);
        fault("a1,2,3,4;b5,6,7,800;", 16, 1);
        fault(WINDS + "x", 18, 1);
        fault(WINDS + "a", 18, 1);
        fault(WINDS + ";", 18, 1);
        fault(WINDS + "1", 18, 1);
        fault(WINDS + "123", 18, 1);
        fault(WINDS + "W0,0,1;", 18, 1);
        fault(WINDS + "w", 19, 1);
        fault(WINDS + "w;", 19, 1);
        fault(WINDS + "w0", 20, 1);
        fault(WINDS + "w0;", 20, 1);
        fault(WINDS + "w000,0,1;", 19, 1);
        fault(WINDS + "w0,", 21, 1);
        fault(WINDS + "w0,w", 21, 1);
        fault(WINDS + "w0,0", 22, 1);
        fault(WINDS + "w0,0;", 22, 1);
        fault(WINDS + "w0,0,", 23, 1);
        fault(WINDS + "w0,0,100;", 23, 1);
        fault(WINDS + "w0,0,99", 25, 1);
        fault(WINDS + "w0,0,99,", 25, 1);
        fault(WINDS + "w0,0,9;q", 25, 1);
        fault(WINDS + "w0,0,9;_", 25, 1);
        fault("a1,_2,3,4;", 3, 1);
    }

    private static void notAsTold() {
        fault("a32,2,3,4;", 1, 2);
        fault("a1,2,3,99", 7, 2);
        fault("a1,2,3,4;b32", 10, 2);
        fault("a1,2,3,4;b5,6,7,40;", 16, 2);
        fault(WINDS + "w4,0,1;", 19, 2);
        fault(WINDS + "w10,0,1;", 19, 2);
        fault(WINDS + "w3,4,1;", 21, 2);
        fault(WINDS + "w0,0,1;n0,0,2;", 28, 2);
        fault(WINDS + "w0,0,1;n0,00", 28, 2);
        fault(WINDS + "w2,3,1;n3,2,2;v2,3,0;", 35, 2);
        // The first TOKEN that has one, whatever a later one has.
        fault("a32,x", 1, 2);
        fault("ax,32", 1, 1);
    }

    private static void noRoom() {
        String six = WINDS + "w0,0,1;w0,1,1;w0,2,1;w0,3,1;w1,0,1;w1,1,1;";
        fault(six + "v2,2,1;", 60, 3);
        fault(six + "v", 60, 3);
        fault(six + "w0,0,1;", 60, 3);
        fault(six + "x", 60, 1);
        fault(six + "1", 60, 1);
        fault(six + "a", 60, 1);
        Check.run("promise 7, six", "read " + six + " = 6");
    }

    private static void fault(String text, int place, int number) {
        Check.run("promises 7, 8", "read " + text + " = " + (-1000100 - place), "fault = " + number, "count 6 = 0",
                "gust 0 0 = STATE", "image 0 = STATE");
    }

    private static void stays() {
        Check.run("promise 7, a FAULT changes no PASS", "read " + WINDS + "s0,0,9; = 1", "turn 0 = 1",
                "gust 0 9 = 1", "read a9,9,9,9;b0,0,0,0;n1,1,9;n1,1,8; = -1000128", "fault = 2", "wind 0 0 = 9",
                "wind 1 0 = 2", "wind 0 1 = 5", "cell 0 1 = 3", "cell 0 3 = 1", "cell 5 1 = NONE", "count 5 = 2",
                "undo = 1", "wind 0 0 = 1", "undo = 0", "cell 0 3 = 0");
        Check.run("promise 8", "fault = 0", "read a = -1000101", "fault = 1", "read a99 = -1000101", "fault = 2",
                "read " + WINDS + " = 0", "fault = 2", "read b = -1000100", "fault = 1");
    }
}
