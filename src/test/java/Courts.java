/** Texts of courts that several tests tell. */
final class Courts {
    private Courts() {
    }

    /** All windows in a row, each with the next. */
    static String line(int windows) {
        return "windows " + windows + ";" + sides(0, windows - 1, "");
    }

    static String ring(int windows) {
        return line(windows) + "string " + (windows - 1) + " 0;";
    }

    /** A full court, 21 strings: twelve windows, 0 with all others, and all sides. */
    static String fan() {
        StringBuilder text = new StringBuilder("windows 12;cans 0 11;");
        for (int b = 1; b < 12; b++) {
            text.append("string 0 ").append(b).append(';');
        }
        return text + sides(1, 11, "");
    }

    /** Strings from one window on to the next one up to the last. */
    static String sides(int first, int last, String knots) {
        StringBuilder text = new StringBuilder();
        for (int w = first; w < last; w++) {
            text.append("string ").append(w).append(' ').append(w + 1).append(knots).append(';');
        }
        return text.toString();
    }
}
