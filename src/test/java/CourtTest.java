/** Promises 1 to 7: a new object, the court. */
public final class CourtTest {
    private CourtTest() {
    }

    public static void main(String[] args) {
        newObject();
        feed();
        court();
        courtWithFault();
        faultsOfTokens();
        faultsOfPlaces();
        faultsOfBounds();
        faultsOfManyAndMay();
        textsWithoutFault();
        window();
        cross();
        pair();
        Due.end();
    }

    private static void newObject() {
        TinCans x = new TinCans();
        int[] counts = {0, 0, 0, 0, 60, 0, 0, 0, 0, 0};
        for (int i = 0; i < counts.length; i++) {
            Due.is(1, "count(" + i + ")", x.count(i), counts[i]);
        }
        Due.is(1, "NONE", TinCans.NONE, -1);
        Due.is(1, "fault(0)", x.fault(0), 0);
        Due.is(1, "fault(1)", x.fault(1), -1);
        Due.is(1, "parts()", x.parts(), 0);
        Due.is(1, "more()", x.more(), 0);
        Due.is(1, "stay(-1)", x.stay(-1), 0);
        Due.is(1, "brace()", x.brace(), -1);
        Due.is(1, "window(0, 0)", x.window(0, 0), -2);
        Due.is(1, "hears(0)", x.hears(0), -2);
        Due.is(1, "may(1)", x.may(1), 1);
        Due.is(1, "restore(0)", x.restore(0), -5);
        Due.is(1, "restore(1)", x.restore(1), -5);
        for (int row = 0; row < 4; row++) {
            Due.is(1, "copy(" + row + ")", x.copy(row), -6);
        }
    }

    private static void feed() {
        TinCans x = new TinCans();
        for (int i = 1; i <= 45; i++) {
            Due.is(2, "feed " + i, x.feed(0x20202020, 0x20202020, 0x20202020, 0x20202020, 0x0a0a0a0a), 20 * i);
        }
        Due.is(2, "feed 46", x.feed(0, 0, 0, 0, 0), -5);
        Due.is(2, "count(8)", x.count(8), 900);
        Due.is(2, "court(900)", x.court(900), 0);
        Due.is(2, "count(8)", x.count(8), 0);
        Due.is(2, "feed", x.feed(-1, -1, -1, -1, -1), 20);
        // "wind" "ows " "12;h" "eard" " 7; ": the highest byte first
        x = new TinCans();
        Due.is(2, "feed", x.feed(0x77696e64, 0x6f777320, 0x31323b68, 0x65617264, 0x20373b20), 20);
        Due.is(2, "court(20)", x.court(20), 2);
        Due.is(2, "count(0)", x.count(0), 12);
        Due.is(2, "count(4)", x.count(4), 7);
    }

    private static void court() {
        TinCans x = new TinCans();
        Due.feed(x, "windows 6;damp 4;heard 9;string 0 1;");
        Due.is(3, "court(-1)", x.court(-1), -3);
        Due.is(3, "court(41)", x.court(41), -3);
        Due.is(3, "count(8)", x.count(8), 40);
        Due.is(3, "court(17)", x.court(17), 2);
        Due.is(3, "count(8)", x.count(8), 0);
        Due.is(3, "count(0)", x.count(0), 6);
        Due.is(3, "count(1)", x.count(1), 0);
        Due.is(3, "count(3)", x.count(3), 4);
        Due.is(3, "count(4)", x.count(4), 60);
        Due.is(3, "count(9)", x.count(9), 2);
        Due.is(3, "court(1)", x.court(1), -3);
        x.pass(30);
        Due.is(3, "court", Due.tell(x, "windows 4;string 0 3;cans 1 5;cans 1 7;"), 4);
        Due.is(3, "count(2)", x.count(2), 0);
        Due.is(3, "count(3)", x.count(3), 0);
        Due.is(3, "window(1, 0)", x.window(1, 0), 7);
        Due.is(3, "pair(3, 1)", x.pair(3, 1), 0);
        Due.is(3, "court(0)", x.court(0), 0);
        Due.is(3, "count(0)", x.count(0), 0);
        Due.is(3, "count(1)", x.count(1), 0);
        Due.is(3, "count(9)", x.count(9), 0);
        StringBuilder longest = new StringBuilder("windows 3;");
        while (longest.length() < 900) {
            longest.append(longest.length() < 894 ? "damp 5;" : " ");
        }
        longest.setLength(900);
        Due.is(3, "court(900)", Due.tell(new TinCans(), longest.toString()), 1 + 127);
    }

    private static void courtWithFault() {
        TinCans x = Due.told("windows 6;cans 2 9;damp 7;heard 33;wash 0 3 1;string 0 1 knots 4;string 2 4;");
        x.pass(12);
        Due.is(3, "court", Due.tell(x, "windows 5;damp 1;string 0 2;string 1 3;"), -35);
        int[] counts = {6, 2, 12, 7, 33, 1, 1, 13, 0, 7};
        for (int i = 0; i < counts.length; i++) {
            Due.is(3, "count(" + i + ") after a fault", x.count(i), counts[i]);
        }
        Due.is(3, "window(2, 0)", x.window(2, 0), 9);
        Due.is(3, "pair(1, 1)", x.pair(1, 1), 4);
        Due.is(4, "fault(0)", x.fault(0), 5);
        Due.is(4, "fault(1)", x.fault(1), 38);
        Due.is(4, "court(1)", x.court(1), -3);
        Due.is(4, "fault(0) after a refused court", x.fault(0), 5);
        Due.is(4, "fault(1) after a refused court", x.fault(1), 38);
        Due.is(4, "fault(2)", x.fault(2), -1);
        Due.is(4, "fault(-1)", x.fault(-1), -1);
        x.image(0);
        Due.is(4, "court", Due.tell(x, "windows 5;"), 1);
        Due.is(4, "fault(0)", x.fault(0), 0);
        Due.is(4, "fault(1)", x.fault(1), -1);
    }

    private static void faulty(String text, int kind, int place) {
        TinCans x = new TinCans();
        Due.is(3, "court of " + text, Due.tell(x, text), -30 - kind);
        Due.is(4, "fault(0) of " + text, x.fault(0), kind);
        Due.is(4, "fault(1) of " + text, x.fault(1), place);
        Due.is(3, "count(0) after " + text, x.count(0), 0);
        Due.is(3, "count(8) after " + text, x.count(8), 0);
    }

    private static void faultsOfTokens() {
        faulty("windows 6;damp 1,2;", 1, 16);
        faulty("windows 6;damp 12345;", 1, 15);
        faulty("windows 6;damp 00001;", 1, 15);
        faulty("windows 6;cans 0 12345;", 1, 17);
        faulty("windows 6;Damp 1;", 1, 10);
        faulty("windows 6;\tdamp 1;", 1, 10);
        faulty("windows 6;damp -1;", 1, 15);
        faulty("windows 6:", 1, 9);
        faulty("windows 6;" + (char) 0, 1, 10);
        faulty("windows 6;" + (char) 233, 1, 10);
        faulty("windows 6;dam" + (char) 160 + "p 1;", 2, 10);
        faulty("12345", 1, 0);
        faulty("windows 6;string 0 1 12345;", 1, 21);
    }

    private static void faultsOfPlaces() {
        faulty("windows 6", 2, 9);
        faulty("windows 6  \n", 2, 12);
        faulty("windows", 2, 7);
        faulty("damp 3;windows 6;", 2, 0);
        faulty(" cans 0 1;", 2, 1);
        faulty("wash 0 3 1;", 2, 0);
        faulty("string 0 1;", 2, 0);
        faulty(";", 2, 0);
        faulty("6", 2, 0);
        faulty("windows 6;;", 2, 10);
        faulty("windows 6;7;", 2, 10);
        faulty("windows ;", 2, 8);
        faulty("windows six;", 2, 8);
        faulty("windows 6 7;", 2, 10);
        faulty("windows 6 damp 3;", 2, 10);
        faulty("windows 6;knots 3;", 2, 10);
        faulty("windows 6;can 0 1;", 2, 10);
        faulty("windows 6;zamp 1;", 2, 10);
        faulty("windows 6;canss 0 1;", 2, 10);
        faulty("windows 6;window 5;", 2, 10);
        faulty("windows 6;cans 0;", 2, 16);
        faulty("windows 6;wash 0 3;", 2, 18);
        faulty("windows 6;heard;", 2, 15);
        faulty("windows 6;string 0 1 knots;", 2, 26);
        faulty("windows 6;string 0 1 knot 2;", 2, 21);
        faulty("windows 6;string 0 1 2;", 2, 21);
        faulty("windows 6;string 0 1 knots 2 3;", 2, 29);
        faulty("windows 6;string 0 1", 2, 20);
        faulty("windows 6;string 0 1 knots 2", 2, 28);
    }

    private static void faultsOfBounds() {
        faulty("windows 2;", 3, 8);
        faulty("windows 13;", 3, 8);
        faulty("windows 0 x", 3, 8);
        faulty("windows 6;cans 6 1;", 3, 15);
        faulty("windows 6;cans 0 12;", 3, 17);
        faulty("windows 6;damp 21;", 3, 15);
        faulty("windows 6;heard 0;", 3, 16);
        faulty("windows 6;heard 1000;", 3, 16);
        faulty("windows 6;wash 6 0 5;", 3, 15);
        faulty("windows 6;wash 0 6 5;", 3, 17);
        faulty("windows 6;wash 0 0 5;", 3, 17);
        faulty("windows 6;wash 0 1 5;", 3, 17);
        faulty("windows 6;wash 0 5 5;", 3, 17);
        faulty("windows 6;wash 5 0 5;", 3, 17);
        faulty("windows 6;wash 3 2 5;", 3, 17);
        faulty("windows 3;wash 0 2 5;", 3, 17);
        faulty("windows 6;wash 0 2 4096;", 3, 19);
        faulty("windows 6;string 6 0;", 3, 17);
        faulty("windows 6;string 0 6;", 3, 19);
        faulty("windows 6;string 1 6;", 3, 19);
        faulty("windows 6;string 2 7;", 3, 19);
        faulty("windows 6;wash 2 6 1;", 3, 17);
        faulty("windows 6;wash 3 7 1;", 3, 17);
        faulty("windows 6;string 2 2;", 3, 19);
        faulty("windows 6;string 0 1 knots 10;", 3, 27);
        faulty("windows 6;damp 21;string 0 0;?", 3, 15);
    }

    private static void faultsOfManyAndMay() {
        faulty("windows 6;windows 7;", 4, 10);
        faulty("windows 6;damp 2; windows", 4, 18);
        StringBuilder washes = new StringBuilder("windows 6;");
        for (int i = 0; i < 8; i++) {
            washes.append("wash 0 2 1;");
        }
        Due.is(3, "court with 8 washes", Due.tell(new TinCans(), washes.toString()), 9);
        faulty(washes + "damp 1;wash?", 4, 105);
        faulty("windows 6;string 0 1;string 1 0;", 5, 31);
        faulty("windows 6;string 0 1;string 0 1 knots 3 ;", 5, 40);
        faulty("windows 6;string 0 2;string 1 3;", 5, 31);
        faulty("windows 6;cans 0 0;string 0 1;", 5, 29);
        faulty("windows 6;cans 1 1;string 0 1;string 1 2;", 5, 40);
        faulty("windows 6;string 0 1;string 0 2;string 0 3;string 0 4;", 5, 53);
        // a string is tied as it may be at its line
        Due.is(3, "cans behind the string", Due.tell(new TinCans(), "windows 6;string 0 1;cans 0 0;"), 3);
        // washing does not keep a string from being tied
        Due.is(3, "string over washing", Due.tell(new TinCans(), "windows 6;wash 0 3 4095;string 1 5;"), 3);
    }

    private static void textsWithoutFault() {
        Due.is(3, "only blanks", Due.tell(new TinCans(), " \n "), 0);
        Due.is(3, "tokens without blanks", Due.tell(new TinCans(), "windows6;cans0 2;string1 2knots3;"), 3);
        Due.is(3, "blanks", Due.tell(new TinCans(), "\n windows\n6 ; \ndamp  20 ;\n"), 2);
        Due.is(3, "the least numbers", Due.tell(new TinCans(), "windows 3;damp 0;heard 1;cans 0 0;"), 4);
        Due.is(3, "leading noughts", Due.tell(new TinCans(), "windows 0006;damp 0020;"), 2);
        TinCans x = Due.told("windows 12;cans 11 0;damp 3;damp 20;heard 999;heard 1;wash 11 9 4095;wash 0 10 0;"
                + "string 8 3 knots 9;string 3 9 knots 0;");
        Due.is(3, "count(3)", x.count(3), 20);
        Due.is(3, "count(4)", x.count(4), 1);
        Due.is(3, "count(5)", x.count(5), 2);
        Due.is(3, "count(9)", x.count(9), 10);
        Due.is(3, "pair(68, 1)", x.pair(68, 1), 9);
        Due.is(3, "pair(69, 1)", x.pair(69, 1), 0);
        Due.is(3, "window(11, 0)", x.window(11, 0), 0);
        Due.is(3, "window(10, 0)", x.window(10, 0), 3);
    }

    private static void window() {
        // the wash from 0 to 3 hangs at hours 0 and 11: 2-4 and 1-5 cross it
        TinCans x = Due.told("windows 6;cans 4 5;wash 3 0 2049;string 4 2;string 4 5;string 0 4;string 2 1;");
        Due.is(5, "window(4, 0)", x.window(4, 0), 5);
        Due.is(5, "window(4, 1)", x.window(4, 1), 3);
        Due.is(5, "window(4, 2)", x.window(4, 2), 2);
        Due.is(5, "window(4, 3)", x.window(4, 3), 1 + 32);
        Due.is(5, "window(3, 0)", x.window(3, 0), 3);
        Due.is(5, "window(3, 1)", x.window(3, 1), 0);
        Due.is(5, "window(3, 3)", x.window(3, 3), 0);
        x.pass(1);
        Due.is(5, "window(4, 2)", x.window(4, 2), 3);
        Due.is(5, "window(4, 3)", x.window(4, 3), 1 + 4 + 32);
        Due.is(5, "window(6, 0)", x.window(6, 0), -2);
        Due.is(5, "window(-1, 0)", x.window(-1, 0), -2);
        Due.is(5, "window(0, 4)", x.window(0, 4), -2);
        Due.is(5, "window(0, -1)", x.window(0, -1), -2);
    }

    private static void cross() {
        TinCans x = Due.told("windows 6;");
        Due.is(6, "cross(2, 23)", x.cross(2, 23), 1);
        Due.is(6, "cross(23, 2)", x.cross(23, 2), 1);
        Due.is(6, "cross(25, 4)", x.cross(25, 4), 1);
        Due.is(6, "cross(2, 65)", x.cross(2, 65), 0);
        Due.is(6, "cross(5, 43)", x.cross(5, 43), 0);
        Due.is(6, "cross(2, 43)", x.cross(2, 43), 0);
        Due.is(6, "cross(2, 2)", x.cross(2, 2), 0);
        Due.is(6, "cross(2, 3)", x.cross(2, 3), 0);
        Due.is(6, "cross(2, 0)", x.cross(2, 0), -2);
        Due.is(6, "cross(6, 2)", x.cross(6, 2), -2);
        Due.is(6, "cross(20, 2)", x.cross(20, 2), -2);
        Due.is(6, "cross(-1, 2)", x.cross(-1, 2), -2);
        Due.is(6, "cross(2, 400)", x.cross(2, 400), -2);
        Due.is(6, "cross(MAX, MIN)", x.cross(Integer.MAX_VALUE, Integer.MIN_VALUE), -2);
    }

    private static void pair() {
        // lengths of 7 windows: 6, 10, 12; with damp 7 their losses are 10.2, 17, 20.4, cut
        TinCans x = Due.told("windows 7;damp 7;wash 1 5 1;string 0 3 knots 2;string 0 6;");
        Due.is(7, "pair(1, 0)", x.pair(1, 0), 6);
        Due.is(7, "pair(6, 0)", x.pair(6, 0), 6);
        Due.is(7, "pair(2, 0)", x.pair(2, 0), 10);
        Due.is(7, "pair(3, 0)", x.pair(3, 0), 12);
        Due.is(7, "pair(4, 0)", x.pair(4, 0), 12);
        Due.is(7, "pair(3, 1)", x.pair(3, 1), 2);
        Due.is(7, "pair(6, 1)", x.pair(6, 1), 0);
        Due.is(7, "pair(4, 1)", x.pair(4, 1), -1);
        Due.is(7, "pair(3, 2)", x.pair(3, 2), 26);
        Due.is(7, "pair(6, 2)", x.pair(6, 2), 10);
        Due.is(7, "pair(4, 2)", x.pair(4, 2), 20);
        Due.is(7, "pair(3, 3)", x.pair(3, 3), 1);
        Due.is(7, "pair(6, 3)", x.pair(6, 3), 0);
        Due.is(7, "pair(4, 3)", x.pair(4, 3), 1);
        Due.is(7, "pair(25, 3)", x.pair(25, 3), 0);
        x.pass(1);
        Due.is(7, "pair(3, 3)", x.pair(3, 3), 0);
        x.pass(11);
        Due.is(7, "pair(3, 3)", x.pair(3, 3), 1);
        Due.is(7, "pair(3, 4)", x.pair(3, 4), -2);
        Due.is(7, "pair(3, -1)", x.pair(3, -1), -2);
        Due.is(7, "pair(7, 0)", x.pair(7, 0), -2);
        Due.is(7, "pair(0, 0)", x.pair(0, 0), -2);
        Due.is(7, "pair(-20, 0)", x.pair(-20, 0), -2);
    }
}
