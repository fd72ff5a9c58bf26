/** The boundary cases of the court's text, of its faults, and of promises 1 to 4, a sentence each. */
public final class EdgesOfTextTest {
    /** A court that stands when a faulty text comes, so that what stays can be seen. */
    private static final String STANDING =
            "windows 6;cans 2 9;damp 7;heard 33;wash 0 3 1025;string 0 1 knots 4;string 2 4;";

    private EdgesOfTextTest() {
    }

    public static void main(String[] args) {
        newObject();
        longestText();
        windows();
        windowsRound();
        cans();
        cansFree();
        washSteps();
        washHours();
        washesAtMost();
        damp();
        heard();
        string();
        lines();
        tokens();
        signs();
        faultOrder();
        faultOne();
        faultTwo();
        faultThree();
        faultFour();
        faultFive();
        feed();
        tapeBytes();
        court();
        courtRefused();
        courtAnew();
        fault();
        Script.end();
    }

    private static Script standing() {
        return Script.of(STANDING).did("pass(10)").did("image(0)").row(0, 1, 1, 44, 3).row(1, 0, 0, 1, -1, -1, -1, -1);
    }

    private static void newObject() {
        Script.says(1, "No WINDOWS.");
        Script x = new Script();
        for (int what = 0; what <= 9; what++) {
            x.due("count(" + what + ")", what == 4 ? 60 : 0);
        }
        x.due("fault(0)", 0).due("fault(1)", -1).due("parts()", 0).due("stay(-1)", 0).due("stay(0)", -1);
        x.due("brace()", -1).due("more()", 0).due("exchange(0)", -1).due("exchange(1)", -1).due("exchange(2)", -1);
        x.refused("window(0, 0)", -2).refused("cross(1, 1)", -2).refused("pair(1, 0)", -2).looks("may(1)", 1);
        x.refused("tie(1, 0)", -11).refused("cut(1)", -2).refused("knot(1)", -2).refused("tieAll(0)", -6);
        x.refused("gust(1, 1)", -5).refused("best(0, 1, 0, 0)", -2).refused("hears(0)", -2);
        x.refused("overhears(0, 1)", -2).refused("needs(0, 1)", -2).refused("openHours(1)", -2);
        x.refused("part(0)", -2).refused("both(1, 43)", -2).refused("renewed(1, 0)", -2);
        x.refused("missing(0, 1, 0)", -2).refused("together(0, 0)", -6).refused("shut(0, 0)", -6);
        x.refused("web(0)", -5).refused("calls(0, 0)", -6).refused("echo(0, 0)", -2);
        x.refused("explained(0, 0, 0)", -2).refused("write(0, 0, 1)", -6).refused("copy(0)", -6);
        x.refused("restore(0)", -5).refused("restore(1)", -5);
        // rows need no windows: empty ones are told of, numbers in others are no pairs
        x.did("numbers(0, 0, 0)").did("numbers(1, 0, 1)").did("write(1, 0, 1)");
        x.due("together(0, 0)", 0).due("together(0, 1)", 0).due("together(0, 2)", 0).due("calls(0, 0)", 0);
        x.due("tieAll(0)", 0).due("tieAll(1)", 0).due("copy(0)", 0).due("copy(1)", 0);
        x.refused("together(1, 0)", -3).refused("shut(1, 0)", -3).refused("calls(1, 0)", -3);
        x.refused("explained(0, 0, 0)", -2);
    }

    private static void longestText() {
        Script.says(0, "THE COURT is a TEXT of at most 900 bytes (without one: no WINDOWS)");
        new Script().due("count(0)", 0).due("court(0)", 0).due("count(0)", 0);
        StringBuilder text = new StringBuilder("windows 12;");
        while (text.length() < 892) {
            text.append(text.length() % 2 == 0 ? '\n' : ' ');
        }
        text.append("damp 20;");
        Script x = new Script().told(text.toString(), 2);
        x.due("count(0)", 12).due("count(3)", 20).due("count(9)", 2).due("fault(1)", -1);
        // with its last byte left out the text ends too early
        x.faulty(text.substring(0, 899), 2, 899);
        text.setCharAt(899, ',');
        x.faulty(text.toString(), 1, 899);
    }

    private static void windows() {
        Script.says(0, "windows: 3 to 12, once, ahead of all other LINES");
        for (int windows = 3; windows <= 12; windows++) {
            new Script().told("windows " + windows + ";", 1).due("count(0)", windows).due("parts()", windows);
        }
        standing().faulty("windows 2;", 3, 8).faulty("windows 13;", 3, 8).faulty("windows 0;", 3, 8);
        standing().faulty("windows 1;", 3, 8).faulty("windows 9999;", 3, 8).faulty("windows 0002;", 3, 8);
        standing().faulty("windows 6;windows 6;", 4, 10).faulty("windows 6;damp 1;windows 7;", 4, 17);
        for (String line : new String[] {"cans 0 1;", "wash 0 2 1;", "damp 1;", "heard 1;", "string 0 1;"}) {
            standing().faulty(line + "windows 6;", 2, 0).faulty(" \n" + line, 2, 2);
        }
    }

    private static void windowsRound() {
        Script.says(0, "WINDOWS are 0, 1 .. round the court");
        Script x = Script.of("windows 5;");
        x.due("window(4, 0)", 3).refused("window(5, 0)", -2).refused("window(-1, 0)", -2);
        // the last and the first are neighbours
        x.due("pair(4, 0)", 4).due("pair(1, 0)", 4).due("pair(64, 0)", 4).due("pair(3, 0)", 6);
        x.due("cross(4, 22)", 0).due("cross(4, 23)", 0).due("cross(4, 43)", 0).due("cross(24, 2)", 1);
        x.due("cross(24, 3)", 1).due("cross(3, 24)", 1).due("cross(23, 4)", 0);
    }

    private static void cans() {
        Script.says(0, "cans: of a WINDOW 0 to 11 (3 without; later ones strike)");
        Script x = Script.of("windows 12;cans 0 0;cans 11 11;cans 1 11;cans 1 0;cans 2 0;cans 2 11;cans 3 5;cans 3 4;");
        x.due("window(0, 0)", 0).due("window(11, 0)", 11).due("window(1, 0)", 0).due("window(2, 0)", 11);
        x.due("window(3, 0)", 4).due("window(4, 0)", 3).due("window(10, 0)", 3).due("count(9)", 9);
        standing().faulty("windows 12;cans 12 1;", 3, 16).faulty("windows 12;cans 0 12;", 3, 18);
        standing().faulty("windows 3;cans 3 1;", 3, 15).faulty("windows 3;cans 9999 1;", 3, 15);
        standing().faulty("windows 3;cans 2 9999;", 3, 17);
        // a later court has no cans of an earlier one
        x.told("windows 12;", 1).due("window(0, 0)", 3).due("window(11, 0)", 3).due("window(3, 0)", 3);
    }

    private static void cansFree() {
        Script.says(0, "3 one of both WINDOWS has no can free (each STRING takes one at both ends)");
        Script x = Script.of("windows 12;cans 0 11;");
        for (int b = 1; b <= 11; b++) {
            x.due("may(" + b + ")", 0).due("tie(" + b + ", 0)", b);
        }
        x.due("window(0, 1)", 11).due("window(0, 0)", 11).due("window(11, 1)", 1);
        // three without: the fourth string finds none free
        x = Script.of("windows 6;string 0 1;string 0 2;");
        x.due("may(3)", 0).due("tie(3, 0)", 3).due("may(4)", 3).refused("tie(4, 0)", -13);
        x.due("cut(3)", 2).due("may(4)", 0);
        // none at all, at the lesser end and at the other one
        x = Script.of("windows 6;cans 2 0;");
        x.due("may(2)", 3).due("may(43)", 3).due("may(1)", 0).refused("tie(2, 0)", -13).refused("tie(43, 0)", -13);
        // fewer cans than strings that are there
        x = Script.of("windows 6;string 0 1;string 0 2;cans 0 1;");
        x.due("window(0, 0)", 1).due("window(0, 1)", 2).due("may(3)", 3).due("cut(1)", 1).due("may(3)", 3);
        x.due("cut(2)", 0).due("may(3)", 0);
        x = Script.of("windows 6;string 0 5;string 1 5;cans 5 1;");
        x.due("may(65)", 3).due("cut(5)", 1).due("may(65)", 3).due("cut(25)", 0).due("may(65)", 0);
    }

    private static void washSteps() {
        Script.says(0, "wash: from a WINDOW to another one, 2 or more steps from it either way round");
        for (int windows = 3; windows <= 12; windows++) {
            for (int a = 0; a < windows; a++) {
                for (int step = 0; step < windows; step++) {
                    String text = "windows " + windows + ";wash " + a + " " + (a + step) % windows + " 1;";
                    if (step >= 2 && step <= windows - 2) {
                        new Script().told(text, 2).due("count(5)", 1);
                    } else {
                        new Script().faulty(text, 3, text.length() - 4 - ((a + step) % windows > 9 ? 1 : 0));
                    }
                }
            }
        }
        standing().faulty("windows 6;wash 0 5 1;", 3, 17).faulty("windows 6;wash 5 0 1;", 3, 17);
        standing().faulty("windows 6;wash 6 2 1;", 3, 15).faulty("windows 6;wash 2 6 1;", 3, 17);
        // where it is told from is of no matter
        Script.of("windows 6;wash 3 0 1;").due("pair(44, 3)", 1).due("pair(2, 3)", 0).due("pair(25, 3)", 1);
        Script.of("windows 6;wash 0 3 1;").due("pair(44, 3)", 1).due("pair(2, 3)", 0).due("pair(25, 3)", 1);
    }

    private static void washHours() {
        Script.says(0, "at HOURS modulo 12 (0 to 4095, as bits)");
        int[] hours = {0, 1, 2, 2048, 2049, 4094, 4095};
        for (int bits : hours) {
            Script x = Script.of("windows 4;wash 0 2 " + bits + ";string 1 3;");
            for (int hour = 0; hour < 26; hour++) {
                x.due("pair(23, 3)", bits >> hour % 12 & 1).due("count(2)", hour).due("pass(1)", hour + 1);
            }
            x.due("openHours(23)", 4095 - bits);
        }
        standing().faulty("windows 4;wash 0 2 4096;", 3, 19).faulty("windows 4;wash 0 2 9999;", 3, 19);
        standing().faulty("windows 4;wash 0 2 10000;", 1, 19);
    }

    private static void washesAtMost() {
        Script.says(0, "8 at most.");
        StringBuilder eight = new StringBuilder("windows 4;");
        for (int i = 0; i < 8; i++) {
            eight.append("wash 0 2 ").append(1 << i).append(';');
        }
        Script x = new Script().told(eight.toString(), 9).due("count(5)", 8);
        for (int hour = 0; hour < 13; hour++) {
            x.due("pair(23, 3)", hour < 8 || hour == 12 ? 1 : 0).did("pass(1)");
        }
        standing().faulty(eight + "wash 0 2 1;", 4, eight.length());
        standing().faulty(eight + "damp 3; wash", 4, eight.length() + 8);
        // eight anew behind a court that had eight, and behind one that was faulty
        x.faulty(eight + "wash 1 3 1;", 4, eight.length()).told(eight.toString(), 9).due("count(5)", 8);
        x.told("windows 4;", 1).due("count(5)", 0).due("pair(23, 3)", 0);
    }

    private static void damp() {
        Script.says(0, "damp: 0 to 20 (0)");
        Script.of("windows 3;").due("count(3)", 0);
        Script.of("windows 3;damp 0;").due("count(3)", 0);
        Script.of("windows 3;damp 20;").due("count(3)", 20).told("windows 3;", 1).due("count(3)", 0);
        standing().faulty("windows 3;damp 21;", 3, 15).faulty("windows 3;damp 9999;", 3, 15);
        Script.says(0, "later ones strike.");
        Script.of("windows 3;damp 20;damp 1;").due("count(3)", 1).due("count(9)", 3);
        Script.of("windows 3;damp 1;string 0 1;damp 0;").due("count(3)", 0).due("pair(1, 2)", 2);
        Script.of("windows 3;heard 9;heard 999;heard 7;").due("count(4)", 7);
        Script.of("windows 3;heard 7;damp 2;heard 60;").due("count(4)", 60).due("count(3)", 2);
    }

    private static void heard() {
        Script.says(0, "heard: 1 to 999 (60)");
        Script.of("windows 3;").due("count(4)", 60);
        Script.of("windows 3;heard 1;string 0 1;").due("count(4)", 1).due("hears(0)", 0);
        Script.of("windows 3;heard 999;").due("count(4)", 999).told("windows 3;", 1).due("count(4)", 60);
        standing().faulty("windows 3;heard 0;", 3, 16).faulty("windows 3;heard 1000;", 3, 16);
        standing().faulty("windows 3;heard 0000;", 3, 16).faulty("windows 3;heard 9999;", 3, 16);
    }

    private static void string() {
        Script.says(0, "string: of two unlike WINDOWS (in whatever order), knots 0 to 9 (0): it is tied, if it MAY be"
                + " then.");
        Script x = Script.of("windows 12;string 11 0 knots 9;string 1 2;string 3 2 knots 0;string 5 11 knots 0009;");
        x.due("pair(11, 1)", 9).due("pair(22, 1)", 0).due("pair(43, 1)", 0).due("pair(111, 1)", 9);
        x.due("count(1)", 4).due("count(9)", 5);
        standing().faulty("windows 12;string 0 0;", 3, 20).faulty("windows 12;string 11 11;", 3, 21);
        standing().faulty("windows 12;string 12 0;", 3, 18).faulty("windows 12;string 0 12;", 3, 20);
        standing().faulty("windows 12;string 0 1 knots 10;", 3, 28);
        standing().faulty("windows 12;string 0 1 knots 9999;", 3, 28);
        // as it may be at its line: cans that come later don't help, and don't hurt
        standing().faulty("windows 6;cans 0 0;string 0 1;cans 0 3;", 5, 29);
        Script.of("windows 6;string 0 1;cans 0 0;").due("count(1)", 1).due("may(2)", 3);
        // washing makes it slack, but it may be tied
        Script.of("windows 4;wash 0 2 4095;string 1 3;").due("count(1)", 1).due("count(6)", 1);
        // as many as there is room for: 21 in a court of twelve windows
        x = Script.of(Courts.fan()).due("count(1)", 21).due("more()", 0).due("brace()", -1).due("stay(-1)", 0);
        x.due("pair(211, 1)", 0).due("pair(1, 1)", 0).due("parts()", 1).refused("tie(22, 0)", -12);
        x.refused("tie(23, 0)", -13).refused("tie(31, 0)", -14).due("cut(1)", 20).due("tie(1, 9)", 21);
    }

    private static void lines() {
        Script.says(0, "{ LINE ; } LINE: windows N | cans N N | wash N N N | damp N | heard N | string N N [ knots N ].");
        // no line, one of each, each of them with a number too few and too many
        new Script().told("", 0).told("windows 6;", 1).told("windows 6;cans 0 1;wash 0 3 1;damp 1;heard 1;string 0 1;"
                + "string 1 2 knots 2;", 7);
        String[] lines = {"cans 0 1", "wash 0 3 1", "damp 1", "heard 1", "string 0 1", "string 0 1 knots 1"};
        for (String line : lines) {
            String text = "windows 6;" + line;
            new Script().told(text + ";", 2).faulty(text, 2, text.length()).faulty(text + " 1;", 2, text.length() + 1);
            new Script().faulty(text.substring(0, text.length() - 2) + ";", 2, text.length() - 2);
            new Script().faulty(text + " damp 1;", 2, text.length() + 1).faulty(text + ";;", 2, text.length() + 1);
        }
        new Script().faulty("windows;", 2, 7).faulty("windows 6 6;", 2, 10).faulty("windows 6 damp 1;", 2, 10);
    }

    private static void tokens() {
        Script.says(0, "TOKENS, as long as they go on, between them blanks (10, 32): words (small letters),"
                + " N (1 to 4 digits), the sign ;.");
        new Script().told("windows6;cans0 2;string1 2knots3;", 3).due("window(0, 0)", 2).due("pair(22, 1)", 3);
        new Script().told("\n\n windows\n6\n;\n damp  20 ;\n\n", 2).due("count(3)", 20);
        new Script().told("windows 0012;damp 0020;heard 0001;", 3).due("count(0)", 12).due("count(4)", 1);
        new Script().told("\n", 0).told(" ", 0).due("count(0)", 0);
        Script x = standing();
        x.faulty("win dows 6;", 2, 0).faulty("windowss 6;", 2, 0).faulty("window 6;", 2, 0).faulty("w 6;", 2, 0);
        x.faulty("windows 6;damp 1 2;", 2, 17).faulty("windows 6;damp 1\n2;", 2, 17);
        x.faulty("windows 6;stringknots 0 1;", 2, 10).faulty("windows 6;string 01;", 2, 19);
        x.faulty("windows 6;;", 2, 10).faulty("windows 6;string 0 1 knotsknots 2;", 2, 21);
        // each letter of each word counts
        String text = "windows 6;cans 0 1;wash 0 3 1;damp 1;heard 1;string 0 1 knots 2;";
        for (int i = 0; i < text.length(); i++) {
            if (Character.isLetter(text.charAt(i))) {
                int start = i;
                while (start > 0 && Character.isLetter(text.charAt(start - 1))) {
                    start--;
                }
                new Script().faulty(text.substring(0, i) + "z" + text.substring(i + 1), 2, start);
                new Script().faulty(text.substring(0, i) + text.substring(i + 1), 2, start);
            }
        }
    }

    private static void signs() {
        Script.says(0, "1 no TOKEN begins so");
        for (int sign = 0; sign < 256; sign++) {
            boolean blank = sign == 10 || sign == 32;
            boolean digit = sign >= '0' && sign <= '9';
            boolean letter = sign >= 'a' && sign <= 'z';
            String ahead = "windows 6;" + (char) sign + "damp 1;";
            String behind = "windows 6;damp 1" + (char) sign + ";";
            if (blank) {
                new Script().told(ahead, 2).told(behind, 2).due("count(3)", 1);
            } else if (digit) {
                new Script().faulty(ahead, 2, 10).told(behind, 2).due("count(3)", 10 + sign - '0');
            } else if (letter) {
                new Script().faulty(ahead, 2, 10).faulty(behind, 2, 16);
            } else if (sign == ';') {
                new Script().faulty(ahead, 2, 10).faulty(behind, 2, 17);
            } else {
                new Script().faulty(ahead, 1, 10).faulty(behind, 1, 16);
            }
        }
        standing().faulty("?", 1, 0).faulty("windows 6;" + (char) 255, 1, 10).faulty((char) 128 + "windows 6;", 1, 0);
        // a token ends where a sign comes that is none: then it is the token that can't stand there
        standing().faulty("windows 6;da?mp 1;", 2, 10).faulty("windows?6;", 1, 7);
    }

    private static void faultOrder() {
        Script.says(0, "FAULTS, the first along the text, of one TOKEN the least kind");
        Script x = standing();
        x.faulty("windows 6;damp 21;heard 0;?", 3, 15).faulty("windows 6;string 0 0 ?", 3, 19);
        x.faulty("windows 13 ?", 3, 8).faulty("windows 6 13;", 2, 10).faulty("?windows 13;", 1, 0);
        x.faulty("windows 6;string 0 1;string 0 1 ?;", 1, 32).faulty("windows 6;string 0 1;string 1 0;?", 5, 31);
        x.faulty("windows 6;string 0 1;string 0 ;", 2, 30).faulty("windows 6;string 0 1;windows 13;", 4, 21);
        // five digits are no token, though they are out of place and out of bounds, too
        x.faulty("windows 6;damp 12345;", 1, 15).faulty("windows 6;12345;", 1, 10).faulty("12345;", 1, 0);
        x.faulty("windows 6;string 0 1 12345;", 1, 21).faulty("windows 6 12345;", 1, 10);
        x.faulty("windows 6;string 0 1;string 0 1 12345;", 1, 32);
        // four are one, and where none can stand its bounds are of no matter
        x.faulty("windows 6 9999;", 2, 10).faulty("9999;", 2, 0).faulty("windows 6;9999;", 2, 10);
    }

    private static void faultOne() {
        Script.says(0, "(5 digits and more: at their first)");
        StringBuilder digits = new StringBuilder("windows 6;damp ");
        for (int many = 1; many <= 880; many++) {
            digits.append('0');
            if (many <= 4) {
                new Script().told(digits + ";", 2);
            } else if (many < 12 || many > 870) {
                new Script().faulty(digits + ";", 1, 15).faulty(digits.toString(), 1, 15);
            }
        }
        standing().faulty("windows 00006;", 1, 8).faulty("windows 6;cans 0 00001;", 1, 17);
        standing().faulty("windows 6;wash 00000 3 1;", 1, 15).faulty("windows 6;string 0 1 knots 4294967296;", 1, 27);
    }

    private static void faultTwo() {
        Script.says(0, "2 it can't stand there (the end: the text's length; any other LINE ahead of windows:"
                + " at its first TOKEN)");
        String text = "windows 6;cans 0 1;wash 0 3 1;damp 1;heard 1;string 0 1 knots 2;";
        int lines = 0;
        for (int n = 0; n <= text.length(); n++) {
            char last = n == 0 ? ';' : text.charAt(n - 1);
            boolean wordGoesOn = n > 0 && n < text.length() && Character.isLetter(last)
                    && Character.isLetter(text.charAt(n));
            if (last == ';') {
                lines += n == 0 ? 0 : 1;
                new Script().told(text.substring(0, n), lines);
                new Script().told(text.substring(0, n) + " \n", lines);
            } else if (wordGoesOn) {
                int start = n;
                while (start > 0 && Character.isLetter(text.charAt(start - 1))) {
                    start--;
                }
                new Script().faulty(text.substring(0, n), 2, start).faulty(text.substring(0, n) + "  ", 2, start);
            } else {
                new Script().faulty(text.substring(0, n), 2, n).faulty(text.substring(0, n) + " \n ", 2, n + 3);
            }
        }
        Script x = standing();
        x.faulty("cans 99 99;", 2, 0).faulty("  wash", 2, 2).faulty("\nstring 0 0;", 2, 1).faulty("damp", 2, 0);
        x.faulty("knots 1;", 2, 0).faulty("roof 1;", 2, 0).faulty(";", 2, 0).faulty("6;", 2, 0);
        x.faulty("windows;", 2, 7).faulty("windows windows 6;", 2, 8).faulty("windows 6 6;", 2, 10);
        x.faulty("windows 6;cans 0;", 2, 16).faulty("windows 6;cans 0 1 1;", 2, 19);
        x.faulty("windows 6;wash 0 3;", 2, 18).faulty("windows 6;wash 0 3 1 1;", 2, 21);
        x.faulty("windows 6;damp;", 2, 14).faulty("windows 6;heard;", 2, 15).faulty("windows 6;heard 1 1;", 2, 18);
        x.faulty("windows 6;string 0;", 2, 18).faulty("windows 6;string 0 1 2;", 2, 21);
        x.faulty("windows 6;string 0 1 knots;", 2, 26).faulty("windows 6;string 0 1 knots 1 knots 1;", 2, 29);
        x.faulty("windows 6;string 0 1 string;", 2, 21).faulty("windows 6;cans 0 1 knots 1;", 2, 19);
        x.faulty("windows 6;knots 1;", 2, 10).faulty("windows 6;string knots 0 1;", 2, 17);
    }

    private static void faultThree() {
        Script.says(0, "3 an N out of its bounds (the second WINDOW of a string that is the first, of a wash that is"
                + " too near, too)");
        Script x = standing();
        x.faulty("windows 6;string 3 3;", 3, 19).faulty("windows 6;string 03 3 knots 1;", 3, 20);
        x.faulty("windows 6;string 3 0003", 3, 19).faulty("windows 6;string 0 0;", 3, 19);
        x.faulty("windows 6;string 6 6;", 3, 17).faulty("windows 6;string 5 6;", 3, 19);
        x.faulty("windows 6;wash 3 3 1;", 3, 17).faulty("windows 6;wash 3 2 1;", 3, 17);
        x.faulty("windows 6;wash 3 4 1;", 3, 17).faulty("windows 6;wash 0 5 1;", 3, 17);
        x.faulty("windows 6;wash 5 0 4096;", 3, 17).faulty("windows 6;wash 5 0", 3, 17);
        x.faulty("windows 6;wash 4 6 1;", 3, 17).faulty("windows 6;wash 2 7 1;", 3, 17);
        x.faulty("windows 6;wash 6 9 1;", 3, 15);
    }

    private static void faultFour() {
        Script.says(0, "4 the first TOKEN of a second windows, of a 9th wash");
        Script x = standing();
        x.faulty("windows 6;windows 6;", 4, 10).faulty("windows 6; \nwindows", 4, 12);
        x.faulty("windows 6;windows 2;", 4, 10).faulty("windows 6;windows?", 4, 10);
        StringBuilder washes = new StringBuilder("windows 12;");
        for (int i = 0; i < 8; i++) {
            x.faulty(washes + "windows 12;", 4, washes.length());
            washes.append("wash ").append(i).append(' ').append(i + 2).append(" 4095;");
        }
        x.faulty(washes + "wash 0 2 1;", 4, washes.length()).faulty(washes + "wash 0 0 1;", 4, washes.length());
        x.faulty(washes + "string 0 1;\nwash;", 4, washes.length() + 12).faulty(washes + "wash?", 4, washes.length());
        Script.of(washes + "string 0 1;damp 1;").due("count(5)", 8).due("count(9)", 11);
    }

    private static void faultFive() {
        Script.says(0, "5 the ; of a string that MAY not be tied");
        Script x = standing();
        x.faulty("windows 6;string 0 1;string 0 1;", 5, 31).faulty("windows 6;string 0 1;string 1 0;", 5, 31);
        x.faulty("windows 6;string 0 1;string 1 0 knots 3 \n ;", 5, 42);
        x.faulty("windows 6;cans 0 0;string 0 1;", 5, 29).faulty("windows 6;cans 0 0;string 1 0;", 5, 29);
        x.faulty("windows 6;cans 5 1;string 0 5;string 5 4;", 5, 40);
        x.faulty("windows 6;string 0 1;string 0 2;string 0 3;string 0 4;", 5, 53);
        x.faulty("windows 6;string 0 2;string 1 3;", 5, 31).faulty("windows 6;string 0 2;string 5 1;", 5, 31);
        // ends in common, or beside one another: they may be
        Script.of("windows 6;string 0 2;string 2 4;string 4 0;string 1 2;string 5 0;").due("count(1)", 5);
    }

    private static void feed() {
        Script.says(2, "-5: it would have more than 900.");
        StringBuilder text = new StringBuilder();
        while (text.length() < 881) {
            text.append(' ');
        }
        text.append("windows 9;damp 13; ");
        Script x = new Script();
        x.feed(text.substring(0, 880)).due("count(8)", 880).looks("fault(0)", 0);
        x.feed(text.substring(880)).due("count(8)", 900);
        x.refused("feed(1, 2, 3, 4, 5)", -5).due("feed(0, 0, 0, 0, 0)", -5).due("feed(-1, -1, -1, -1, -1)", -5);
        x.due("count(8)", 900).due("court(900)", 2).due("count(0)", 9).due("count(3)", 13).due("count(8)", 0);
        // the tape is empty, so there is room again
        x.due("feed(0, 0, 0, 0, 0)", 20).due("court(20)", -31).due("feed(0, 0, 0, 0, 0)", 20);
    }

    private static void tapeBytes() {
        Script.says(2, "Twenty bytes come behind those on THE TAPE, the highest of each int first: how many it has.");
        Script x = new Script();
        x.due("feed(" + 0x77696e64 + ", " + 0x6f777320 + ", " + 0x31323b68 + ", " + 0x65617264 + ", " + 0x20373b64
                + ")", 20);
        x.due("feed(" + 0x616d7020 + ", " + 0x31353b20 + ", 0, -1, MIN)", 40);
        x.due("court(27)", 3).due("count(0)", 12).due("count(4)", 7).due("count(3)", 15);
        // the highest bit of a byte counts, and bytes 0 are there
        new Script().due("feed(" + (0x77696e64 | 0x80000000) + ", 0, 0, 0, 0)", 20).due("court(20)", -31)
                .due("fault(1)", 0);
        new Script().due("feed(" + (0x20202020 | 0x80) + ", 0, 0, 0, 0)", 20).due("court(20)", -31).due("fault(1)", 3);
        new Script().due("feed(" + 0x20202000 + ", 0, 0, 0, 0)", 20).due("court(20)", -31).due("fault(1)", 3);
        new Script().due("feed(" + 0x20202020 + ", " + 0x20202020 + ", " + 0x20202020 + ", " + 0x20202020 + ", "
                + 0x2020203b + ")", 20).due("court(20)", -32).due("fault(1)", 19);
    }

    private static void court() {
        Script.says(3, "The first n bytes of THE TAPE (which is empty then) are THE COURT, HOUR is 0: how many LINES");
        Script x = standing();
        x.feed("windows 6;damp 4;heard 9;string 0 1;").due("count(8)", 40).due("court(17)", 2);
        x.due("count(8)", 0).due("count(1)", 0).due("count(3)", 4).due("count(4)", 60).due("count(2)", 0);
        x.due("count(5)", 0).due("count(9)", 2).refused("court(1)", -3);
        // none of them: no windows, and the tape is empty
        x.did("pass(9)").feed("windows 6;").due("court(0)", 0).due("count(8)", 0).due("count(0)", 0);
        x.due("count(2)", 0).due("count(9)", 0).due("fault(0)", 0).due("court(0)", 0);
        // all of them
        x = new Script().feed("windows 5;heard 20; ").due("court(20)", 2).due("count(4)", 20);
        x.feed("windows 5;damp 0020;windows 5;damp 0020;").due("court(20)", 2).due("count(8)", 0);
        x.feed("windows 5;damp 0020;windows 5;damp 0020;").due("court(40)", -34).due("count(8)", 0);
        x.due("fault(1)", 20);
        // the most lines: strings, knots and washing aside
        StringBuilder lines = new StringBuilder("windows3;");
        while (lines.length() + 6 <= 900) {
            lines.append("damp1;");
        }
        new Script().told(lines.toString(), 149).due("count(9)", 149);
    }

    private static void courtRefused() {
        Script.says(3, "-3: n is below 0 or above what there is (THE TAPE stays)");
        Script x = standing().refused("court(1)", -3).refused("court(-1)", -3);
        x.feed("windows 9;damp 2;").refused("court(-1)", -3).refused("court(21)", -3);
        x.refused("court(MIN)", -3).refused("court(MAX)", -3).refused("court(901)", -3);
        x.due("court(21)", -3).due("court(-1)", -3).due("count(8)", 20).due("count(0)", 6).due("count(2)", 10);
        x.due("court(17)", 2).due("count(0)", 9).due("count(2)", 0).due("court(1)", -3);
        Script.says(3, "(all stays with a FAULT)");
        x = standing().did("pass(3)").did("damp(11)").did("tie(85, 5)");
        x.faulty("windows 5;damp 1;heard 2;cans 0 7;wash 0 2 4095;string 0 2;string 1 3;", 5, 69);
        // with the fault all but read, and with none of it
        x.faulty("windows 5;damp 1;heard 2;cans 0 7;wash 0 2 4095;string 0 2", 2, 58).faulty("windows", 2, 7);
        Script.says(0, "-30 less the FAULT: a text.");
        Script.says(3, "-30 less the FAULT.");
        x.faulty("windows 5,", 1, 9).faulty("windows 5", 2, 9).faulty("windows 2;", 3, 8);
        x.faulty("windows 5;windows", 4, 10).faulty("windows 3;cans 0 0;string 0 1;", 5, 29);
    }

    private static void courtAnew() {
        Script.says(3, "are THE COURT");
        // nothing of the court before is left; rows and images stay
        Script x = standing().did("damp(19)").told("windows 6;", 1);
        x.due("count(1)", 0).due("count(2)", 0).due("count(3)", 0).due("count(4)", 60).due("count(5)", 0);
        x.due("window(2, 0)", 3).due("pair(1, 1)", -1).due("pair(44, 3)", 0).due("count(7)", 0);
        x.due("together(0, 0)", 2).due("explained(0, 1, 0)", 2).due("explained(0, 1, 1)", 1);
        x.due("restore(0)", 0).due("count(9)", 7).due("pair(1, 1)", 4).due("count(3)", 7).due("count(2)", 10);
        // nor is it courts later, nor of a text with a fault, nor of strings that would be tied
        x = new Script();
        for (int i = 0; i < 3; i++) {
            x.told(STANDING, 7).did("pass(9)").due("more()", 5);
            for (int k = 0; k < 3; k++) {
                plainCourt(x);
            }
            x.told(STANDING + "?", -31).told("windows 6;damp 3;heard 9;cans 0 1;wash 0 3 1;string 0 2;string 1 3;", -35);
            for (int k = 0; k < 2; k++) {
                plainCourt(x);
            }
        }
    }

    private static void plainCourt(Script x) {
        x.told("windows 6;", 1);
        long[] counts = {6, 0, 0, 0, 60, 0, 0, 0, 0, 1};
        for (int what = 0; what <= 9; what++) {
            x.due("count(" + what + ")", counts[what]);
        }
        x.due("window(2, 0)", 3).due("window(0, 0)", 3).due("pair(1, 1)", -1).due("pair(44, 3)", 0);
    }

    private static void fault() {
        Script.says(4, "Of the latest court() that was read, what 0: its FAULT (0), 1: its place (NONE).");
        Script x = new Script().looks("fault(0)", 0).looks("fault(1)", -1);
        x.told("windows 6;damp 21;", -33).looks("fault(0)", 3).looks("fault(1)", 15);
        // a court() that is refused was not read; a feed is not a court
        x.due("court(1)", -3).due("fault(0)", 3).due("fault(1)", 15).feed("windows 6;");
        x.due("court(-1)", -3).due("fault(0)", 3).due("fault(1)", 15);
        x.due("image(0)", 0).due("restore(0)", 0).due("fault(0)", 3).due("fault(1)", 15);
        x.due("court(10)", 1).due("fault(0)", 0).due("fault(1)", -1);
        x.told("?", -31).due("fault(0)", 1).due("fault(1)", 0).due("court(0)", 0).due("fault(0)", 0);
        x.due("fault(1)", -1);
        Script.says(4, "NONE for others.");
        x = new Script().told("windows 6;damp 21;", -33);
        x.looks("fault(2)", -1).looks("fault(-1)", -1).looks("fault(MIN)", -1).looks("fault(MAX)", -1);
    }
}
