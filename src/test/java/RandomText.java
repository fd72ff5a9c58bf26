import java.util.Random;

/** Drawn texts of courts, most of them without a fault, some with a slip of the pen. */
final class RandomText {
    private RandomText() {
    }

    static String draw(Random random) {
        StringBuilder text = new StringBuilder();
        int windows = 3 + random.nextInt(10);
        text.append("windows ").append(windows).append(';');
        int lines = random.nextInt(22);
        boolean manyCans = random.nextBoolean();
        if (manyCans) {
            for (int w = 0; w < windows; w++) {
                text.append("cans ").append(w).append(' ').append(3 + random.nextInt(9)).append(';');
            }
        }
        for (int i = 0; i < lines; i++) {
            text.append(line(random, windows));
            if (random.nextInt(4) == 0) {
                text.append(random.nextBoolean() ? "\n" : "  ");
            }
        }
        if (text.length() > 880) {
            text.setLength(880);
        }
        if (random.nextInt(4) == 0) {
            slip(random, text);
        }
        return text.toString();
    }

    private static String line(Random random, int windows) {
        int a = random.nextInt(windows);
        int b = random.nextInt(windows);
        int far = (a + 2 + random.nextInt(Math.max(1, windows - 3))) % windows;
        switch (random.nextInt(12)) {
            case 0:
                return "cans " + a + " " + random.nextInt(12) + ";";
            case 1:
            case 2:
                return windows > 3 ? "wash " + a + " " + far + " " + random.nextInt(4096) + ";" : "damp 3;";
            case 3:
                return "damp " + random.nextInt(21) + ";";
            case 4:
                return "heard " + (1 + random.nextInt(random.nextBoolean() ? 120 : 999)) + ";";
            case 5:
                return a == b ? "" : "string " + a + " " + b + (random.nextBoolean() ? ";" : " knots 2;");
            default:
                return "";
        }
    }

    private static void slip(Random random, StringBuilder text) {
        int at = random.nextInt(text.length());
        String signs = "0123456789;; aswk,A\u00e9\u0000\n";
        char sign = signs.charAt(random.nextInt(signs.length()));
        String[] lines = {"string 0 1;", "string 1 0 knots 9;", "wash 0 2 4096;", "wash 2 0 1;", "cans 3 12;",
            "windows 4;", "heard 0;", "knots 2;", ";", "damp 00020;", "damp 0020;", "string 0 1 knots 10;", "12345"};
        switch (random.nextInt(5)) {
            case 0:
                text.setCharAt(at, sign);
                break;
            case 1:
                text.insert(at, sign);
                break;
            case 2:
                text.deleteCharAt(at);
                break;
            case 3:
                text.setLength(at);
                break;
            default:
                int end = text.indexOf(";", at);
                text.insert(end < 0 ? at : end + 1, lines[random.nextInt(lines.length)]);
                break;
        }
        if (text.length() > 900) {
            text.setLength(900);
        }
    }
}
