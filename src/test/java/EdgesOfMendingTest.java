/** The boundary cases of promises 23 to 28, what all hangs on and what would mend it, a sentence each. */
public final class EdgesOfMendingTest {
    private static final String RING_OF_FOUR = Courts.ring(4);

    private EdgesOfMendingTest() {
    }

    public static void main(String[] args) {
        stay();
        staysNow();
        brace();
        braceOfSeveral();
        both();
        bothRefused();
        renewed();
        renewedRefused();
        exchange();
        exchangeOfSeveral();
        missing();
        missingTwo();
        missingRefused();
        Script.end();
    }

    private static void stay() {
        Script.says(23, "The k-th STAY by its number; k NONE: how many. NONE: not so many.");
        Script x = Script.of(Courts.line(12)).looks("stay(-1)", 11);
        for (int k = 0; k < 11; k++) {
            x.looks("stay(" + k + ")", 21 * k + 1);
        }
        x.looks("stay(11)", -1).looks("stay(12)", -1).looks("stay(-2)", -1).looks("stay(MIN)", -1);
        x.looks("stay(MAX)", -1);
        // a ring has none
        x.did("tie(11, 0)").looks("stay(-1)", 0).looks("stay(0)", -1);
        new Script().looks("stay(-1)", 0).looks("stay(0)", -1).looks("stay(-2)", -1);
        Script.of("windows 3;").looks("stay(-1)", 0).looks("stay(0)", -1);
        Script.of("windows 3;string 1 2;").looks("stay(-1)", 1).looks("stay(0)", 22).looks("stay(1)", -1);
    }

    private static void staysNow() {
        Script.says(0, "A STRING that isn't SLACK is a STAY, if there were more PARTS without it.");
        // 1-3 is slack at hour 0: then the others of the three are stays, and it is none
        Script x = Script.of("windows 4;wash 0 2 1;string 1 2;string 2 3;string 1 3;");
        x.looks("stay(-1)", 2).looks("stay(0)", 22).looks("stay(1)", 43).looks("stay(2)", -1).did("pass(1)");
        x.looks("stay(-1)", 0).looks("stay(0)", -1).did("cut(43)").looks("stay(-1)", 2).looks("stay(1)", 23);
        // heard or not is of no matter
        Script.of("windows 3;heard 1;string 0 1;string 1 2;").looks("stay(-1)", 2).looks("stay(1)", 22);
    }

    private static void brace() {
        Script.says(24, "BRACE, its number. NONE: there is none.");
        new Script().looks("brace()", -1);
        Script.of("windows 3;").looks("brace()", 1);
        Script.of("windows 3;string 0 1;string 1 2;").looks("brace()", 2);
        Script.of("windows 3;string 0 1;string 1 2;string 2 0;").looks("brace()", -1);
        Script.of("windows 3;cans 0 0;cans 1 0;cans 2 0;").looks("brace()", -1);
        Script.of("windows 3;cans 0 0;cans 1 0;").looks("brace()", -1);
        Script.of("windows 3;cans 0 0;").looks("brace()", 22);
        Script.says(0, "BRACE: of PAIRS that MAY be tied, that would not be SLACK now");
        Script x = Script.of(RING_OF_FOUR + "wash 0 2 9;wash 1 3 10;");
        x.looks("brace()", 2).did("pass(1)").looks("brace()", 23).did("pass(1)").looks("brace()", 2);
        x.did("pass(1)").looks("brace()", -1).did("pass(9)").looks("brace()", 2);
        x.did("tie(2, 0)").looks("brace()", -1).did("pass(1)").looks("brace()", -1);
    }

    private static void braceOfSeveral() {
        Script.says(0, "that by which the fewest STAYS would be there, of these the one with the least LENGTH, then the"
                + " least number.");
        // 0-3 leaves none, though 0-2 has a lesser number; where 0 has no can, 1-3 leaves one
        Script.of(Courts.line(4)).looks("brace()", 3);
        Script.of("windows 4;cans 0 1;string 0 1;string 1 2;string 2 3;").looks("brace()", 23);
        Script.of(Courts.line(12)).looks("brace()", 11);
        // nothing to brace: one stay more is the fewest, of these the shortest, then the least
        Script.of("windows 6;string 0 1;string 1 2;string 2 0;").looks("brace()", 5);
        Script.of("windows 6;cans 0 2;string 0 1;string 1 2;string 2 0;").looks("brace()", 43);
        // 0-2 is longer than 3-4, 3-5 and 0-2 are like
        Script.of("windows 6;cans 1 0;cans 5 0;cans 3 1;cans 4 1;").looks("brace()", 43);
        Script.of("windows 7;string 0 1;string 1 2;string 3 4;string 4 5;").looks("brace()", 2);
    }

    private static void both() {
        Script.says(0, "BOTH for two PAIRS of four unlike WINDOWS: a WAY for each (from its lesser WINDOW), without a"
                + " WINDOW in common: those with the least LOSS together.");
        Script x = Script.of(RING_OF_FOUR + "heard 1;");
        x.looks("both(1, 43)", 6).looks("both(43, 1)", 6).looks("both(3, 22)", 6).looks("both(22, 3)", 6);
        Script.says(25, "BOTH: LOSS together. NONE: it can't be");
        x.looks("both(2, 23)", -1).looks("both(23, 2)", -1);
        x.did("cut(43)").looks("both(1, 43)", -1).looks("both(43, 1)", -1);
        Script.of("windows 4;").looks("both(1, 43)", -1);
        Script.of("windows 4;string 0 1;").looks("both(1, 43)", -1).looks("both(43, 1)", -1);
        x = Script.of("windows 6;wash 0 3 1;string 2 4;string 0 1;").looks("both(44, 1)", -1).looks("both(1, 44)", -1);
        x.did("pass(1)").looks("both(44, 1)", 13).looks("both(1, 44)", 13);
        x = Script.of(Courts.line(12)).looks("both(5, 131)", 110).looks("both(131, 5)", 110).looks("both(6, 111)", -1);
        x.looks("both(1, 211)", 22).looks("both(23, 11)", -1).looks("both(11, 23)", -1);
        // 4 to 6 passes 3, between the other's ends and beside them
        x = Script.of("windows 8;string 3 4;string 3 6;string 2 7;").looks("both(86, 47)", 37).looks("both(47, 86)", 37);
        x = Script.of("windows 8;string 4 5;string 5 7;string 3 0;").looks("both(87, 3)", 34).looks("both(3, 87)", 34);
        // a fan from 0: whoever is passed by the other has to go round
        x = Script.of(Courts.fan()).looks("both(22, 211)", 22).looks("both(31, 44)", 44).looks("both(31, 50)", 110);
        x.looks("both(50, 31)", 110).looks("both(6, 31)", -1);
    }

    private static void bothRefused() {
        Script.says(25, "-2: one of both is no PAIR; -3: they have a WINDOW in common.");
        Script x = Script.of(RING_OF_FOUR);
        x.refused("both(1, 1)", -3).refused("both(1, 2)", -3).refused("both(1, 22)", -3).refused("both(22, 1)", -3);
        x.refused("both(2, 22)", -3).refused("both(43, 3)", -3);
        x.refused("both(0, 43)", -2).refused("both(43, 0)", -2).refused("both(1, 4)", -2).refused("both(63, 1)", -2);
        x.refused("both(-1, 1)", -2).refused("both(1, MIN)", -2).refused("both(MAX, 1)", -2);
        // no pair goes ahead, though a window is in common, too
        x.refused("both(20, 1)", -2).refused("both(1, 20)", -2).refused("both(20, 20)", -2).refused("both(1, 21)", -2);
        // in common, though there is no way
        Script.of("windows 4;").refused("both(1, 3)", -3);
        new Script().refused("both(1, 43)", -2).refused("both(1, 1)", -2);
    }

    private static void renewedIs(Script x, int pair, int by, int string) {
        x.looks("renewed(" + pair + ", 0)", by).looks("renewed(" + pair + ", 1)", string);
    }

    private static void renewed() {
        Script.says(26, "RENEWED, what 0: by how much, 1: the STRING (NONE: by nothing).");
        Script x = Script.of("windows 3;string 0 1;string 1 2;");
        renewedIs(x, 2, 0, -1);
        renewedIs(x, 1, 0, -1);
        Script.says(0, "RENEWED for a PAIR: of STRINGS that aren't SLACK that which, if it had no knots, would lessen"
                + " the LOSS of its BEST most, the first.");
        // the most knots, like ones: the first; then the other has more
        x = Script.of("windows 3;string 0 1 knots 9;string 1 2 knots 9;");
        renewedIs(x, 2, 27, 1);
        renewedIs(x, 1, 27, 1);
        renewedIs(x, 22, 27, 22);
        // the first by number, though the other one was tied first
        renewedIs(Script.of("windows 3;string 1 2 knots 9;string 0 1 knots 9;"), 2, 27, 1);
        x = Script.of("windows 3;string 0 1 knots 8;string 1 2 knots 9;");
        renewedIs(x, 2, 27, 22);
        // knots that are on no best way, with or without them
        x = Script.of("windows 6;string 0 1;string 1 2;string 2 3 knots 9;");
        renewedIs(x, 2, 0, -1);
        // by no more than the next best way allows: 10 beside 8 and 3 for each knot
        x = Script.of("windows 6;string 0 1;string 1 2;string 0 2 knots 9;");
        renewedIs(x, 2, 2, 2);
        x = Script.of("windows 6;string 0 1 knots 1;string 1 2;string 0 2 knots 1;");
        // 0-2 is best by 11, and would be 8; 0-1 would make it 10
        renewedIs(x, 2, 3, 2);
        // a slack one is not renewed
        x = Script.of("windows 4;wash 0 2 1;string 1 3 knots 9;string 1 2;string 2 3;");
        renewedIs(x, 23, 0, -1);
        x.did("pass(1)");
        renewedIs(x, 23, 2, 23);
        // renewed() only looks: its knots stay
        x.due("pair(23, 1)", 9);
        // a full court, 21 strings, the last of them knotted
        x = Script.of(Courts.fan()).did("knot(211)").did("knot(211)");
        renewedIs(x, 211, 6, 211);
        renewedIs(x, 11, 0, -1);
    }

    private static void renewedRefused() {
        Script.says(26, "-2: no PAIR, what; -5: there is no WAY.");
        Script x = Script.of("windows 4;wash 0 2 1;string 0 1 knots 2;string 1 3 knots 1;");
        x.refused("renewed(2, 0)", -5).refused("renewed(2, 1)", -5).refused("renewed(23, 0)", -5);
        x.refused("renewed(1, 2)", -2).refused("renewed(1, -1)", -2).refused("renewed(1, MIN)", -2);
        x.refused("renewed(1, MAX)", -2).refused("renewed(0, 0)", -2).refused("renewed(20, 1)", -2);
        x.refused("renewed(4, 0)", -2).refused("renewed(-1, 0)", -2).refused("renewed(MIN, 0)", -2);
        // what goes ahead, though there is no way
        x.refused("renewed(2, 2)", -2).refused("renewed(2, -1)", -2);
        x.did("pass(1)").due("renewed(23, 0)", 3).due("renewed(1, 0)", 6);
        new Script().refused("renewed(1, 0)", -2);
    }

    private static void exchangeIs(Script x, int window, int others, int loss) {
        x.looks("exchange(0)", window).looks("exchange(1)", others).looks("exchange(2)", loss);
    }

    private static void exchange() {
        Script.says(27, "EXCHANGE, what 0: the WINDOW, 1: how many others, 2: LOSS. NONE: no WINDOWS; -2: what (as a"
                + " number alone).");
        Script x = new Script();
        exchangeIs(x, -1, -1, -1);
        for (String what : new String[] {"3", "-1", "MIN", "MAX"}) {
            x.refused("exchange(" + what + ")", -2);
        }
        x = Script.of("windows 3;");
        exchangeIs(x, 0, 0, 0);
        for (String what : new String[] {"3", "-1", "MIN", "MAX"}) {
            x.refused("exchange(" + what + ")", -2);
        }
        exchangeIs(Script.of(Courts.line(12) + "heard 999;"), 5, 11, 11 * 36);
        // nothing is heard: the least window, by nothing
        exchangeIs(Script.of(Courts.line(12) + "heard 10;"), 0, 0, 0);
        exchangeIs(Script.of(Courts.line(12) + "heard 11;"), 1, 2, 22);
    }

    private static void exchangeOfSeveral() {
        Script.says(0, "EXCHANGE: the WINDOW from which BEST is HEARD at the most others, of like ones the one with the"
                + " least LOSS of these BEST together, then the least.");
        exchangeIs(Script.of("windows 6;string 0 1;string 3 4;"), 0, 1, 5);
        exchangeIs(Script.of("windows 6;string 0 1 knots 1;string 3 4;"), 3, 1, 5);
        // most others go ahead of the least loss
        exchangeIs(Script.of("windows 6;string 0 1;string 2 3 knots 9;string 3 4 knots 9;"), 3, 2, 64);
        // only those that are heard count, and only their loss
        exchangeIs(Script.of("windows 6;heard 31;string 0 1;string 2 3 knots 9;string 3 4 knots 9;"), 0, 1, 5);
        exchangeIs(Script.of("windows 6;heard 32;string 0 1;string 2 3 knots 9;string 3 4 knots 9;"), 3, 2, 64);
    }

    private static void missingIs(Script x, int a, int b, int many, int first, int second) {
        String call = "missing(" + a + ", " + b + ", ";
        x.looks(call + "0)", many).looks(call + "1)", first).looks(call + "2)", second);
    }

    private static void missing() {
        Script.says(28, "MISSING, what 0: how many, 1, 2: the first, the second PAIR (NONE: not so many). NONE: not with"
                + " 2");
        // heard or not, there is a way
        Script x = Script.of(Courts.line(12) + "heard 1;");
        missingIs(x, 0, 11, 0, -1, -1);
        missingIs(x, 11, 0, 0, -1, -1);
        x = Script.of("windows 12;");
        missingIs(x, 0, 1, 1, 1, -1);
        missingIs(x, 11, 0, 1, 11, -1);
        missingIs(x, 10, 11, 1, 211, -1);
        missingIs(x, 7, 3, 1, 67, -1);
        // by one that joins their parts, the first by numbers
        x = Script.of("windows 6;string 0 1;string 1 2;string 3 4;string 4 5;");
        missingIs(x, 1, 4, 1, 3, -1);
        missingIs(x, 5, 0, 1, 3, -1);
        // no cans for any: not with 2
        x = Script.of("windows 6;cans 0 0;");
        missingIs(x, 0, 3, -1, -1, -1);
        missingIs(x, 3, 0, -1, -1, -1);
    }

    private static void missingTwo() {
        Script.says(0, "MISSING for two WINDOWS: the fewest PAIRS (2 at most), tied one behind the other, each as it MAY"
                + " then and not SLACK now, by which there would be a WAY between them (HEARD or not); of like ones the"
                + " first by numbers.");
        // at hour 0 all but the sides are slack: three steps are too many
        Script x = Script.of("windows 6;heard 1;wash 0 3 1;wash 1 4 1;wash 2 5 1;");
        missingIs(x, 0, 1, 1, 1, -1);
        missingIs(x, 0, 2, 2, 1, 22);
        missingIs(x, 2, 0, 2, 1, 22);
        missingIs(x, 0, 4, 2, 5, 85);
        missingIs(x, 0, 3, -1, -1, -1);
        missingIs(x, 3, 0, -1, -1, -1);
        missingIs(x, 5, 2, -1, -1, -1);
        x.did("pass(1)");
        missingIs(x, 0, 3, 1, 3, -1);
        x.did("pass(11)").did("tie(22, 0)");
        missingIs(x, 0, 3, 2, 1, 43);
        missingIs(x, 5, 2, 2, 1, 5);
        // one behind the other: alone each may be, but the first takes the last can where both would end
        x = Script.of("windows 4;cans 0 1;cans 2 1;wash 0 2 1;");
        x.due("may(1)", 0).due("may(3)", 0).due("may(22)", 0).due("may(43)", 0);
        missingIs(x, 1, 3, -1, -1, -1);
        x.did("pass(1)");
        missingIs(x, 1, 3, 1, 23, -1);
        missingIs(Script.of("windows 4;cans 0 1;cans 2 2;wash 0 2 1;"), 1, 3, 2, 22, 43);
        missingIs(Script.of("windows 4;cans 0 2;cans 2 2;wash 0 2 1;"), 1, 3, 2, 1, 3);
        // a last can at each end is enough; 1-3 and 0-3 are slack
        missingIs(Script.of("windows 5;cans 1 1;cans 3 1;wash 2 4 4095;"), 1, 3, 2, 22, 43);
        // a string keeps them from one another, and leaves cans, or leaves none
        missingIs(Script.of("windows 4;string 0 2;"), 1, 3, 2, 1, 3);
        missingIs(Script.of("windows 4;cans 0 1;cans 2 1;string 0 2;"), 1, 3, -1, -1, -1);
    }

    private static void missingRefused() {
        Script.says(28, "-2: a WINDOW, both one, what (as numbers alone).");
        Script x = Script.of("windows 4;string 0 1;cans 3 0;");
        x.refused("missing(4, 0, 0)", -2).refused("missing(0, 4, 1)", -2).refused("missing(-1, 0, 2)", -2);
        x.refused("missing(0, -1, 0)", -2).refused("missing(MIN, 0, 0)", -2).refused("missing(0, MAX, 0)", -2);
        x.refused("missing(0, 0, 0)", -2).refused("missing(3, 3, 1)", -2);
        for (String what : new String[] {"3", "-1", "MIN", "MAX"}) {
            // where there is a way, where one is missing, where none can be
            x.refused("missing(0, 1, " + what + ")", -2).refused("missing(0, 2, " + what + ")", -2);
            x.refused("missing(0, 3, " + what + ")", -2);
        }
        missingIs(x, 0, 3, -1, -1, -1);
        missingIs(x, 2, 0, 1, 2, -1);
        x.due("count(1)", 1);
        new Script().refused("missing(0, 0, 0)", -2).refused("missing(0, 1, 3)", -2);
    }
}
