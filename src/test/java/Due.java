/** What the tests of the promises share: an answer beside the one that is due, and courts from texts. */
final class Due {
    private static int wrong = 0;

    private Due() {
    }

    static void is(int promise, String call, long got, long want) {
        if (got != want) {
            wrong++;
            System.out.println("promise " + promise + ": " + call + " answered " + got + ", due is " + want);
        }
    }

    static void end() {
        System.out.println(wrong == 0 ? "all answers are as due" : wrong + " answers are not as due");
        if (wrong != 0) {
            System.exit(1);
        }
    }

    /** Feeds a text; behind its end come signs that would be a fault, were they read. */
    static void feed(TinCans x, String text) {
        StringBuilder padded = new StringBuilder(text);
        while (padded.length() % 20 != 0) {
            padded.append('?');
        }
        for (int i = 0; i < padded.length(); i += 20) {
            int[] words = new int[5];
            for (int k = 0; k < 20; k++) {
                words[k / 4] = words[k / 4] << 8 | padded.charAt(i + k);
            }
            x.feed(words[0], words[1], words[2], words[3], words[4]);
        }
    }

    static int tell(TinCans x, String text) {
        feed(x, text);
        return x.court(text.length());
    }

    static TinCans told(String text) {
        TinCans x = new TinCans();
        int lines = tell(x, text);
        if (lines < 0) {
            is(3, "court of " + text, lines, 0);
        }
        return x;
    }

    static void row(TinCans x, int row, int sort, long... numbers) {
        x.numbers(row, sort, numbers.length);
        for (int i = 0; i < numbers.length; i++) {
            x.write(row, i, numbers[i]);
        }
    }
}
