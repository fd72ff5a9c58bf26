/** Promises 36 to 41: rows of numbers, images. */
public final class RowsTest {
    private RowsTest() {
    }

    public static void main(String[] args) {
        numbers();
        write();
        copy();
        images();
        imagesKeepTheirState();
        count();
        Due.end();
    }

    private static void numbers() {
        TinCans x = Due.told("windows 4;");
        Due.is(36, "numbers(-1, 0, 1)", x.numbers(-1, 0, 1), -2);
        Due.is(36, "numbers(4, 0, 41)", x.numbers(4, 0, 41), -2);
        Due.is(36, "numbers(0, 4, 41)", x.numbers(0, 4, 41), -2);
        Due.is(36, "numbers(0, -1, 1)", x.numbers(0, -1, 1), -2);
        Due.is(36, "numbers(0, 0, 41)", x.numbers(0, 0, 41), -3);
        Due.is(36, "numbers(0, 0, -1)", x.numbers(0, 0, -1), -3);
        Due.is(36, "copy(0), still missing", x.copy(0), -6);
        Due.is(36, "numbers(0, 0, 0)", x.numbers(0, 0, 0), 0);
        Due.is(36, "copy(0), empty", x.copy(0), 0);
        Due.is(36, "write(0, 0, 1)", x.write(0, 0, 1), -7);
        Due.is(36, "numbers(0, 3, 40)", x.numbers(0, 3, 40), 0);
        Due.is(36, "write(0, 39, 1)", x.write(0, 39, 1), 1);
        Due.is(36, "numbers(0, 0, 41)", x.numbers(0, 0, 41), -3);
        Due.is(36, "write(0, 39, 300), the row stays", x.write(0, 39, 300), 300);
        // all 0 again: 0 is no pair, and as echoes all four would have to be heard at once
        Due.row(x, 1, 0, 1, 2, 3, 22);
        Due.is(36, "together(1, 0)", x.together(1, 0), 4);
        x.numbers(1, 0, 4);
        Due.is(36, "together(1, 0)", x.together(1, 0), -3);
        Due.is(36, "tieAll(1)", x.tieAll(1), 0);
        x.write(1, 1, 0);
        Due.is(36, "explained(0, 1, 0)", x.explained(0, 1, 0), 3);
        // rows don't share their numbers
        Due.row(x, 2, 1, 1, 1);
        Due.row(x, 3, 1, 3);
        Due.is(36, "shut(2, 0)", x.shut(2, 0), 0);
        Due.is(36, "together(3, 1)", x.together(3, 1), 3);
        Due.is(36, "together(2, 1)", x.together(2, 1), 6);
    }

    private static void write() {
        TinCans x = new TinCans();
        Due.is(37, "write(4, 0, 1)", x.write(4, 0, 1), -2);
        Due.is(37, "write(-1, 0, 1)", x.write(-1, 0, 1), -2);
        Due.is(37, "write(0, -1, 1)", x.write(0, -1, 1), -6);
        for (int row = 0; row < 4; row++) {
            x.numbers(row, row, 2);
        }
        Due.is(37, "write(0, 2, 1)", x.write(0, 2, 1), -7);
        Due.is(37, "write(0, -1, 1)", x.write(0, -1, 1), -7);
        Due.is(37, "write 127", x.write(0, 0, 127), 127);
        Due.is(37, "write 128", x.write(0, 0, 128), -128);
        Due.is(37, "write 255", x.write(0, 1, 255), -1);
        Due.is(37, "write 256", x.write(0, 1, 256), 0);
        Due.is(37, "write 32767", x.write(1, 0, 32767), 32767);
        Due.is(37, "write 32768", x.write(1, 0, 32768), -32768);
        Due.is(37, "write 65537", x.write(1, 0, 65537), 1);
        Due.is(37, "write 2^31", x.write(2, 0, 1L << 31), Integer.MIN_VALUE);
        Due.is(37, "write 2^32 + 5", x.write(2, 1, (1L << 32) + 5), 5);
        Due.is(37, "write MAX", x.write(3, 0, Long.MAX_VALUE), Long.MAX_VALUE);
        Due.is(37, "write MIN", x.write(3, 1, Long.MIN_VALUE), Long.MIN_VALUE);
    }

    private static void copy() {
        TinCans x = Due.told("windows 12;string 11 10;string 0 6;string 0 1;");
        Due.is(38, "copy(-1)", x.copy(-1), -2);
        Due.is(38, "copy(4)", x.copy(4), -2);
        Due.is(38, "copy(0)", x.copy(0), -6);
        x.numbers(0, 1, 2);
        Due.is(38, "copy(0)", x.copy(0), 2);
        Due.is(38, "together(0, 1): 0-1 and 0-6", x.together(0, 1), 11 + 36);
        Due.row(x, 1, 1, 25, 25, 25, 25);
        Due.is(38, "copy(1)", x.copy(1), 3);
        // 1, 6, 211 and 25 as it was: the last crosses 0-6 alone
        Due.is(38, "shut(1, 3)", x.shut(1, 3), 0);
        Due.is(38, "together(1, 1)", x.together(1, 1), 11 + 36 + 11 + 32);
        Due.row(x, 1, 1, 7, 7, 7, 27);
        x.copy(1);
        Due.is(38, "shut(1, 3): 0-6 behind 0-1", x.shut(1, 3), 1);
        Due.is(38, "shut(1, 1)", x.shut(1, 1), 1);
        Due.is(38, "shut(1, 0)", x.shut(1, 0), 0);
        // 211 has no place in 8 bits: it is cut
        x.numbers(2, 0, 3);
        Due.is(38, "copy(2)", x.copy(2), 3);
        Due.is(38, "together(2, 0)", x.together(2, 0), -3);
        x.cut(211);
        Due.is(38, "copy(2)", x.copy(2), 2);
        x.write(2, 2, 22);
        Due.is(38, "together(2, 1)", x.together(2, 1), 11 + 36 + 11);
        Due.is(38, "count(1)", x.count(1), 2);
    }

    private static void images() {
        TinCans x = new TinCans();
        Due.is(39, "image(-1)", x.image(-1), -2);
        Due.is(39, "image(2)", x.image(2), -2);
        Due.is(40, "restore(2)", x.restore(2), -2);
        Due.is(40, "restore(-1)", x.restore(-1), -2);
        Due.is(40, "restore(0)", x.restore(0), -5);
        Due.is(39, "image(0)", x.image(0), 0);
        Due.is(40, "restore(1)", x.restore(1), -5);
        Due.tell(x, "windows 6;string 0 1;");
        Due.is(39, "image(1)", x.image(1), 0);
        Due.is(40, "restore(0)", x.restore(0), 0);
        Due.is(40, "count(0)", x.count(0), 0);
        Due.is(40, "restore(1)", x.restore(1), 0);
        Due.is(40, "count(0)", x.count(0), 6);
        Due.is(40, "count(1)", x.count(1), 1);
        x.cut(1);
        Due.is(40, "restore(1) again", x.restore(1), 0);
        Due.is(40, "count(1)", x.count(1), 1);
        x.cut(1);
        Due.is(39, "image(1) anew", x.image(1), 0);
        x.tie(2, 0);
        Due.is(40, "restore(1)", x.restore(1), 0);
        Due.is(40, "count(1)", x.count(1), 0);
    }

    private static void imagesKeepTheirState() {
        TinCans x = Due.told("windows 6;cans 1 7;damp 3;heard 44;wash 0 3 1;string 2 4 knots 5;string 0 1;");
        x.damp(9);
        x.pass(12);
        x.image(0);
        x.knot(44);
        x.cut(1);
        x.damp(1);
        x.pass(1);
        Due.row(x, 0, 1, 3);
        Due.feed(x, "windows 2;");
        Due.tell(x, "");
        Due.tell(x, "windows 9;wash 1 4 5;wash 2 7 4095;cans 1 2;string 5 6;");
        Due.feed(x, "windows 3;");
        Due.is(40, "restore(0)", x.restore(0), 0);
        int[] counts = {6, 2, 12, 9, 44, 1, 1, 13, 20, 7};
        for (int i = 0; i < counts.length; i++) {
            Due.is(40, "count(" + i + ")", x.count(i), counts[i]);
        }
        Due.is(40, "pair(44, 1)", x.pair(44, 1), 5);
        Due.is(40, "pair(1, 1)", x.pair(1, 1), 0);
        Due.is(40, "pair(44, 3)", x.pair(44, 3), 1);
        Due.is(40, "window(1, 0)", x.window(1, 0), 7);
        Due.is(40, "window(2, 0)", x.window(2, 0), 3);
        Due.is(40, "rows stay", x.together(0, 1), 9);
        Due.is(40, "the tape stays", x.court(10), 1);
        Due.is(40, "count(0)", x.count(0), 3);
        Due.is(40, "a fault stays", Due.tell(x, "windows 2;"), -33);
        x.restore(0);
        Due.is(40, "fault(1)", x.fault(1), 8);
        Due.is(40, "count(9)", x.count(9), 7);
    }

    private static void count() {
        TinCans x = Due.told("windows 7;damp 2;heard 50;wash 0 3 4;wash 6 1 4095;string 2 4;string 0 2;string 0 5;");
        x.pass(14);
        Due.feed(x, "x");
        int[] counts = {7, 3, 14, 2, 50, 2, 3, 30, 20, 8};
        for (int i = 0; i < counts.length; i++) {
            Due.is(41, "count(" + i + ")", x.count(i), counts[i]);
        }
        x.pass(1);
        Due.is(41, "count(6)", x.count(6), 2);
        Due.is(41, "count(10)", x.count(10), -1);
        Due.is(41, "count(-1)", x.count(-1), -1);
        Due.is(41, "count(MIN)", x.count(Integer.MIN_VALUE), -1);
    }
}
