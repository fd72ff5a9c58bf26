/** The boundary cases of promises 36 to 41, rows and images, of codes, and of an object's last call, a sentence each. */
public final class EdgesOfRowsTest {
    private EdgesOfRowsTest() {
    }

    public static void main(String[] args) {
        rowsAtFirst();
        rowSizes();
        rowSorts();
        numbers();
        numbersRefused();
        write();
        writeRefused();
        copy();
        copyOrder();
        copyCut();
        copyRefused();
        image();
        imageRefused();
        restore();
        restoreRefused();
        imageKeeps();
        count();
        countOthers();
        severalCodes();
        lastCall();
        Script.end();
    }

    private static void rowsAtFirst() {
        Script.says(0, "ROWS OF NUMBERS 0 to 3 are MISSING at first");
        Script x = Script.of("windows 3;string 0 1;");
        for (int row = 0; row <= 3; row++) {
            x.refused("write(" + row + ", 0, 1)", -6).refused("copy(" + row + ")", -6);
            x.refused("tieAll(" + row + ")", -6).refused("together(" + row + ", 0)", -6);
            x.refused("shut(" + row + ", 0)", -6).refused("calls(" + row + ", 0)", -6);
            x.refused("explained(0, " + row + ", 0)", -6);
        }
        for (int row = 0; row <= 3; row++) {
            // the rows behind it are still missing
            x.due("numbers(" + row + ", 0, 1)", 0).due("copy(" + row + ")", 1);
            if (row < 3) {
                x.refused("copy(" + (row + 1) + ")", -6);
            }
        }
        for (String row : new String[] {"-1", "4", "MIN", "MAX"}) {
            x.refused("numbers(" + row + ", 0, 1)", -2).refused("write(" + row + ", 0, 1)", -2);
            x.refused("copy(" + row + ")", -2).refused("tieAll(" + row + ")", -2);
            x.refused("together(" + row + ", 0)", -2).refused("shut(" + row + ", 0)", -2);
            x.refused("calls(" + row + ", 0)", -2).refused("explained(0, " + row + ", 0)", -2);
        }
    }

    private static void rowSizes() {
        Script.says(0, "or have 0 to 40 numbers");
        Script x = Script.of("windows 3;string 0 1;");
        x.due("numbers(0, 0, 0)", 0).due("copy(0)", 0).refused("write(0, 0, 1)", -7).refused("shut(0, 0)", -7);
        x.due("numbers(0, 0, 1)", 0).due("write(0, 0, 1)", 1).refused("write(0, 1, 1)", -7);
        x.due("numbers(0, 0, 40)", 0).due("write(0, 39, 1)", 1).refused("write(0, 40, 1)", -7);
        x.refused("numbers(0, 0, 41)", -3).refused("numbers(0, 0, -1)", -3).due("write(0, 39, 2)", 2);
    }

    private static void rowSorts() {
        Script.says(0, "numbers of 8 bits (sort 0), 16 (1), 32 (2), 64 (3)");
        for (int sort = 0; sort <= 3; sort++) {
            int bits = 8 << sort;
            Script x = new Script().did("numbers(2, " + sort + ", 40)");
            long most = Long.MAX_VALUE >> 64 - bits;
            long least = Long.MIN_VALUE >> 64 - bits;
            x.due("write(2, 0, " + most + ")", most).due("write(2, 39, " + least + ")", least);
            x.due("write(2, 1, 0)", 0).due("write(2, 1, -1)", -1).due("write(2, 1, 1)", 1);
            // over the edge it wraps around
            x.due("write(2, 0, " + (most + 1) + ")", least).due("write(2, 0, " + (least - 1) + ")", most);
            if (sort < 3) {
                x.due("write(2, 0, " + ((1L << bits) - 1) + ")", -1).due("write(2, 0, " + (1L << bits) + ")", 0);
                x.due("write(2, 0, " + ((1L << bits) + 5) + ")", 5).due("write(2, 0, " + (-(1L << bits) - 5) + ")", -5);
                x.due("write(2, 0, " + Long.MAX_VALUE + ")", -1).due("write(2, 0, " + Long.MIN_VALUE + ")", 0);
            }
        }
        // what is kept is what it was cut to: 257 is pair 1 in 8 bits alone
        Script.of("windows 3;").row(0, 0, 257).due("together(0, 0)", 1).row(0, 1, 257).due("together(0, 0)", -3);
        Script.of("windows 3;").row(0, 1, 65537).due("shut(0, 0)", 0).row(0, 2, 65537).due("shut(0, 0)", -3);
        Script.of("windows 3;").row(0, 2, (1L << 32) + 1).due("tieAll(0)", 1);
        Script.of("windows 3;").row(0, 3, (1L << 32) + 1).due("tieAll(0)", 0);
    }

    private static void numbers() {
        Script.says(36, "A ROW OF NUMBERS has n numbers of a sort, all 0 (in place of another one): 0.");
        // pairs before, zeros then: no pair is left
        Script x = Script.of("windows 4;").row(0, 1, 1, 2, 3, 22).due("together(0, 0)", 4);
        x.due("numbers(0, 1, 4)", 0).due("together(0, 0)", -3).due("tieAll(0)", 0);
        // fewer, then more again: what was behind is 0 too
        x.row(0, 1, 1, 2, 3, 22).due("numbers(0, 1, 1)", 0).due("write(0, 0, 1)", 1).due("together(0, 0)", 1);
        x.due("numbers(0, 1, 4)", 0).due("write(0, 0, 1)", 1).due("together(0, 0)", -3).due("tieAll(0)", 1);
        // all 0 is heard at once by all: nobody but one can be told so
        x = Script.of("windows 3;").due("numbers(1, 3, 3)", 0).due("explained(0, 1, 0)", 3);
        x.did("write(1, 1, -1)").due("explained(0, 1, 0)", 3).did("write(1, 2, -1)").due("explained(0, 1, 0)", 0);
        // its sort goes with it
        x.due("numbers(1, 3, 1)", 0).due("write(1, 0, 300)", 300).due("numbers(1, 0, 1)", 0).due("write(1, 0, 300)", 44);
        x.due("numbers(1, 1, 1)", 0).due("write(1, 0, 300)", 300).due("numbers(1, 2, 1)", 0);
        x.due("write(1, 0, 70000)", 70000).due("numbers(1, 1, 0)", 0).due("copy(1)", 0);
    }

    private static void numbersRefused() {
        Script.says(36, "-2: no such ROW, sort; -3, and the ROW stays: n is below 0 or above 40.");
        Script x = Script.of("windows 4;").row(0, 1, 1, 2, 3, 22).did("image(0)");
        for (String none : new String[] {"-1", "4", "MIN", "MAX"}) {
            x.refused("numbers(" + none + ", 0, 1)", -2).refused("numbers(0, " + none + ", 1)", -2);
            // which row and sort go ahead of how many
            x.refused("numbers(" + none + ", 0, 41)", -2).refused("numbers(0, " + none + ", -1)", -2);
        }
        for (String many : new String[] {"-1", "41", "MIN", "MAX"}) {
            x.refused("numbers(0, 0, " + many + ")", -3).refused("numbers(3, 3, " + many + ")", -3);
            x.due("numbers(0, 0, " + many + ")", -3).due("together(0, 0)", 4).due("write(0, 0, 300)", 300);
            x.due("write(0, 0, 1)", 1).due("numbers(3, 3, " + many + ")", -3).due("copy(3)", -6);
        }
        x.due("numbers(0, 0, 40)", 0).due("numbers(0, 3, 0)", 0);
    }

    private static void write() {
        Script.says(37, "Number i of a ROW OF NUMBERS is v, cut to its sort: as it is there.");
        Script x = Script.of("windows 12;").did("numbers(3, 2, 40)");
        x.due("write(3, 0, 1)", 1).due("write(3, 39, 211)", 211).due("shut(3, 0)", -3);
        for (int i = 1; i < 39; i++) {
            x.due("write(3, " + i + ", 23)", 23);
        }
        // only that number: 0-2 is crossed by the 38 of 1-3
        x.due("shut(3, 0)", 0).due("write(3, 0, 2)", 2).due("shut(3, 0)", 38).due("shut(3, 39)", 0);
        x.due("write(3, 39, 3)", 3).due("shut(3, 39)", 0).due("write(3, 39, 2)", 2).due("shut(3, 1)", 2);
    }

    private static void writeRefused() {
        Script.says(37, "-2: no such ROW; -6; -7.");
        Script x = Script.of("windows 6;").row(0, 1, 1, 2).row(1, 0);
        for (String row : new String[] {"-1", "4", "MIN", "MAX"}) {
            x.refused("write(" + row + ", 0, 1)", -2).refused("write(" + row + ", -1, 1)", -2);
        }
        for (String i : new String[] {"-1", "2", "39", "40", "MIN", "MAX"}) {
            x.refused("write(0, " + i + ", 5)", -7).refused("write(1, " + i + ", 5)", -7);
            x.refused("write(2, " + i + ", 5)", -6);
        }
        x.refused("write(1, 0, 5)", -7).refused("write(2, 0, 5)", -6).refused("write(3, 0, 5)", -6);
        x.due("write(0, 2, 5)", -7).due("write(0, -1, 5)", -7).due("together(0, 1)", 13);
        // numbers that are as codes are
        x.due("write(0, 0, -7)", -7).due("write(0, 1, -6)", -6).due("together(0, 0)", -3);
    }

    private static void copy() {
        Script.says(38, "STRINGS, by numbers of their PAIRS, the least first, come into a ROW from its first place on,"
                + " as many as it has places: how many.");
        String court = "windows 6;string 4 5;string 2 0;string 1 0;string 3 4;";
        // more places than strings, just as many, fewer, none
        Script x = Script.of(court).row(0, 1, 25, 25, 25, 25, 25, 25).due("copy(0)", 4).due("together(0, 0)", 5);
        // 1, 2, 64, 85 and then 25 as it was: 1-5 crosses 0-2 alone
        x.did("write(0, 4, 3)").due("shut(0, 5)", 2).due("shut(0, 1)", 1).due("shut(0, 0)", 0).due("shut(0, 4)", 1);
        x.row(1, 1, 0, 0, 0, 0).due("copy(1)", 4).due("together(1, 1)", 23).due("together(1, 2)", 15);
        x.row(1, 1, 0, 0).due("copy(1)", 2).due("together(1, 1)", 13).row(1, 1, 0).due("copy(1)", 1);
        x.due("together(1, 1)", 5).row(1, 1).due("copy(1)", 0).due("count(1)", 4);
        // no strings: the row stays; no windows: likewise
        x = Script.of("windows 6;").row(0, 1, 2, 3).due("copy(0)", 0).due("together(0, 1)", 17);
        x.told("", 0).due("copy(0)", 0);
        // slack ones too; a row of 40 in a full court of 21
        Script.of("windows 4;wash 0 2 1;string 1 3;").row(0, 1, 1).due("copy(0)", 1).due("together(0, 1)", 4);
        x = Script.of(Courts.fan()).did("numbers(3, 3, 40)").due("copy(3)", 21).due("shut(3, 0)", -3);
        x.did("numbers(3, 3, 21)").due("copy(3)", 21).due("shut(3, 0)", 0).due("shut(3, 20)", 0);
    }

    /** Rows stay when a court is told, so all that a row has can be tied and looked at in an empty one. */
    private static void copiesInOrder(String court, int windows, int... pairs) {
        StringBuilder empty = new StringBuilder("windows ").append(windows).append(';');
        for (int w = 0; w < windows; w++) {
            empty.append("cans ").append(w).append(" 11;");
        }
        for (int many = 0; many <= pairs.length; many++) {
            Script x = Script.of(court).did("numbers(0, 1, " + many + ")").due("copy(0)", many);
            x.told(empty.toString(), windows + 1).due("tieAll(0)", many);
            for (int k = 0; k < pairs.length; k++) {
                x.due("pair(" + pairs[k] + ", 1)", k < many ? 0 : -1);
            }
        }
    }

    private static void copyOrder() {
        Script.says(38, "by numbers of their PAIRS, the least first");
        copiesInOrder("windows 6;string 0 1;string 0 2;string 2 3;string 3 4;", 6, 1, 2, 43, 64);
        copiesInOrder("windows 6;string 3 4;string 2 3;string 0 2;string 0 1;", 6, 1, 2, 43, 64);
        copiesInOrder("windows 6;string 2 3;string 0 1;string 4 3;string 2 0;", 6, 1, 2, 43, 64);
        copiesInOrder("windows 6;string 3 4;string 0 1;string 0 2;string 2 3;", 6, 1, 2, 43, 64);
        copiesInOrder("windows 6;string 0 2;string 3 4;string 0 1;string 2 3;", 6, 1, 2, 43, 64);
        copiesInOrder("windows 12;string 10 11;string 9 10;string 0 11;string 0 10;string 2 4;", 12, 10, 11, 44, 190,
                211);
        // cut and tied again, they are in order too
        Script x = Script.of("windows 6;string 0 3;string 0 1;string 3 4;").did("cut(1)").did("cut(64)");
        x.did("tie(64, 0)").did("tie(1, 0)").did("numbers(0, 1, 1)").due("copy(0)", 1).due("together(0, 1)", 5);
        x.did("numbers(0, 1, 2)").due("copy(0)", 2).due("together(0, 1)", 14).due("cut(1)", 2);
        x.did("numbers(0, 1, 1)").due("copy(0)", 1).due("together(0, 1)", 9);
    }

    private static void copyCut() {
        Script.says(38, "come into a ROW");
        // 127 has room in 8 bits, 128 and more has none: 131 is -125
        Script x = Script.of("windows 12;string 6 7;").did("numbers(0, 0, 1)").due("copy(0)", 1);
        x.due("together(0, 0)", 1).due("together(0, 1)", 11);
        x = Script.of("windows 12;string 6 11;").did("numbers(0, 0, 1)").due("copy(0)", 1).due("together(0, 0)", -3);
        x.did("numbers(0, 1, 1)").due("copy(0)", 1).due("together(0, 1)", 35);
    }

    private static void copyRefused() {
        Script.says(38, "-2: the ROW; -6.");
        Script x = Script.of("windows 6;string 0 1;").row(1, 1, 2);
        x.refused("copy(-1)", -2).refused("copy(4)", -2).refused("copy(MIN)", -2).refused("copy(MAX)", -2);
        x.refused("copy(0)", -6).refused("copy(2)", -6).refused("copy(3)", -6).due("together(1, 1)", 8);
    }

    private static void image() {
        Script.says(39, "An IMAGE is made: 0.");
        // without windows too, and anew over another one
        Script x = new Script().due("image(0)", 0).due("image(1)", 0).due("image(0)", 0);
        x.told("windows 6;string 0 1;", 2).due("restore(1)", 0).due("count(0)", 0).told("windows 5;", 1);
        x.due("image(1)", 0).due("restore(0)", 0).due("count(0)", 0).due("restore(1)", 0).due("count(0)", 5);
        // making one changes nothing
        x = Script.of("windows 6;damp 2;string 0 1 knots 3;").did("pass(7)").due("image(0)", 0);
        x.due("count(1)", 1).due("count(2)", 7).due("count(3)", 2).due("pair(1, 1)", 3).due("count(9)", 3);
    }

    private static void imageRefused() {
        Script.says(39, "An IMAGE is made: 0. -2.");
        Script x = Script.of("windows 6;string 0 1;").did("image(0)").did("tie(2, 0)");
        x.refused("image(-1)", -2).refused("image(2)", -2).refused("image(MIN)", -2).refused("image(MAX)", -2);
        x.due("image(2)", -2).due("image(-1)", -2).due("restore(0)", 0).due("count(1)", 1).due("restore(1)", -5);
    }

    private static void restore() {
        Script.says(40, "All that is in an IMAGE is as it was: 0.");
        Script x = Script.of("windows 6;cans 1 7;damp 3;heard 44;wash 0 3 4095;string 2 4 knots 5;string 0 1;");
        x.did("pass(99)").did("image(1)").did("cut(44)").did("knot(1)").did("pass(1)").did("tie(5, 2)");
        x.told("windows 12;cans 1 1;wash 0 2 1;wash 0 3 1;string 5 6;", 5).did("gust(1, 60)").due("restore(1)", 0);
        long[] counts = {6, 2, 99, 3, 44, 1, 1, 13, 0, 7};
        for (int what = 0; what <= 9; what++) {
            x.due("count(" + what + ")", counts[what]);
        }
        x.due("pair(44, 1)", 5).due("pair(1, 1)", 0).due("pair(5, 1)", -1).due("window(1, 0)", 7);
        x.due("window(2, 0)", 3).due("pair(44, 3)", 1).refused("window(6, 0)", -2);
        // again and again, and what is done then is not done to the image
        x.did("cut(44)").did("cut(1)").due("count(1)", 0).due("restore(1)", 0).due("count(1)", 2).did("knot(44)");
        x.due("restore(1)", 0).due("pair(44, 1)", 5).due("pair(44, 2)", 25);
        // a court told then is another one, too
        x.told("windows 3;", 1).did("tie(1, 9)").due("restore(1)", 0).due("pair(44, 1)", 5).due("pair(1, 1)", 0);
        // the one is not the other
        x.due("image(0)", 0).did("cut(1)").due("restore(0)", 0).due("count(1)", 2).did("cut(44)").due("image(0)", 0);
        x.due("restore(1)", 0).due("count(1)", 2).due("restore(0)", 0).due("count(1)", 1);
    }

    private static void restoreRefused() {
        Script.says(40, "-2; -5: none was made.");
        Script x = Script.of("windows 6;string 0 1;");
        x.refused("restore(0)", -5).refused("restore(1)", -5).refused("restore(-1)", -2).refused("restore(2)", -2);
        x.refused("restore(MIN)", -2).refused("restore(MAX)", -2).did("image(1)").did("cut(1)");
        x.refused("restore(0)", -5).refused("restore(2)", -2).due("restore(0)", -5).due("count(1)", 0);
        x.due("restore(1)", 0).due("count(1)", 1).refused("restore(0)", -5);
        Script.says(0, "IMAGES 0 to 1: THE COURT, STRINGS, HOUR (none at first).");
        new Script().refused("restore(0)", -5).refused("restore(1)", -5).did("image(0)").due("restore(0)", 0)
                .refused("restore(1)", -5);
        new Script().did("image(1)").due("restore(1)", 0).refused("restore(0)", -5);
    }

    private static void imageKeeps() {
        Script.says(0, "IMAGES 0 to 1: THE COURT, STRINGS, HOUR");
        // damp as it is then is the court's; rows, the tape and the fault are in none
        Script x = Script.of("windows 6;damp 3;").did("damp(9)").did("pass(5)").row(0, 1, 1).did("image(0)");
        x.did("damp(1)").did("pass(1)").row(0, 1, 1, 2).told("windows 2;", -33).feed("windows 7;");
        x.due("restore(0)", 0).due("count(3)", 9).due("count(2)", 5).due("together(0, 0)", 2).due("count(8)", 20);
        x.due("fault(0)", 3).due("fault(1)", 8).due("court(10)", 1).due("count(0)", 7).due("fault(0)", 0);
    }

    private static void count() {
        Script.says(41, "0 WINDOWS, 1 STRINGS, 2 HOUR, 3 damp, 4 heard, 5 washes, 6 SLACK ones, 7 LENGTH of all STRINGS,"
                + " 8 bytes on THE TAPE, 9 LINES.");
        Script x = Script.of("windows 7;damp 2;heard 50;wash 0 3 4;wash 6 1 4095;string 2 4;string 0 2;string 0 5;");
        x.did("pass(14)").feed("x");
        long[] counts = {7, 3, 14, 2, 50, 2, 3, 30, 20, 8};
        for (int what = 0; what <= 9; what++) {
            x.looks("count(" + what + ")", counts[what]);
        }
        x.did("pass(1)").due("count(6)", 2).did("cut(2)").due("count(6)", 1).did("cut(5)").due("count(6)", 0);
        x.due("count(7)", 10).did("cut(44)").due("count(7)", 0).due("count(1)", 0).due("count(9)", 8);
    }

    private static void countOthers() {
        Script.says(41, "NONE for others.");
        Script x = Script.of("windows 7;");
        x.looks("count(10)", -1).looks("count(-1)", -1).looks("count(MIN)", -1).looks("count(MAX)", -1);
        new Script().looks("count(10)", -1).looks("count(-1)", -1).looks("count(MIN)", -1).looks("count(MAX)", -1);
    }

    private static void severalCodes() {
        Script.says(0, "(Of several that which the call tells first.)");
        Script x = Script.of("windows 6;cans 0 0;string 1 2;").row(0, 1, 0).did("image(0)");
        for (int i = 0; i < 101; i++) {
            x.did("pass(99)");
        }
        x.refused("tie(0, 10)", -11).refused("tie(22, 10)", -12).refused("tie(1, 10)", -13).refused("pass(100)", -3);
        x.refused("best(0, 0, -1, 2)", -2).refused("both(1, 0)", -2).refused("renewed(5, 2)", -2);
        x.refused("together(1, 3)", -2).refused("shut(1, 9)", -6).refused("shut(0, 9)", -7).refused("web(2)", -2);
        x.refused("calls(0, 3)", -2).refused("calls(1, 50)", -2).refused("explained(6, 1, 0)", -2);
        x.refused("explained(0, 0, 2)", -2).refused("numbers(4, 0, 41)", -2).refused("write(1, 9, 0)", -6);
        x.refused("restore(2)", -2);
        new Script().refused("gust(1, 0)", -5).refused("web(2)", -2).refused("explained(0, 0, 0)", -2);
    }

    private static void lastCall() {
        Script.says(0, "An object is used for at most 512 calls after it has been made");
        // each call up to the last answers as told: ties and cuts, images, rows, hours
        Script x = Script.of("windows 12;").did("numbers(0, 3, 40)").did("image(0)");
        int made = 4;
        for (int i = 0; made + 6 <= 511; i++) {
            int pair = 21 * (i % 11) + 1;
            x.due("tie(" + pair + ", 9)", 1).due("knot(" + pair + ")", -4).due("copy(0)", 1);
            x.due("cut(" + pair + ")", 0).due("pass(1)", 1).due("restore(0)", 0);
            made += 6;
        }
        for (; made < 511; made++) {
            x.due("count(2)", 0);
        }
        x.due("count(0)", 12);
        // the tape can be filled and read as often as that
        x = new Script();
        for (int i = 0; i < 128; i++) {
            x.feed("windows 7;string 0 1").due("court(10)", 1).due("count(0)", 7).due("court(1)", -3);
        }
    }
}
