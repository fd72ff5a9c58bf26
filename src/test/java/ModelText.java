import java.util.ArrayList;
import java.util.List;
import java.util.regex.Matcher;
import java.util.regex.Pattern;

/** The model's text, cut into tokens by a pattern: w word, n number, ; sign, ? no token, e end. */
final class ModelText {
    static final class Token {
        final char kind;
        final int place;
        final String word;
        final int number;

        Token(char kind, int place, String word, int number) {
            this.kind = kind;
            this.place = place;
            this.word = word;
            this.number = number;
        }
    }

    private static final Pattern PIECE =
            Pattern.compile("(?<blank>[\\n ]+)|(?<word>[a-z]+)|(?<number>[0-9]+)|(?<sign>;)|(?<other>[\\x00-\\xff])");

    final List<Token> tokens = new ArrayList<>();

    ModelText(String text) {
        Matcher m = PIECE.matcher(text);
        while (m.find()) {
            String piece = m.group();
            if (m.group("word") != null) {
                tokens.add(new Token('w', m.start(), piece, 0));
            } else if (m.group("number") != null && piece.length() <= 4) {
                tokens.add(new Token('n', m.start(), "", Integer.parseInt(piece)));
            } else if (m.group("sign") != null) {
                tokens.add(new Token(';', m.start(), "", 0));
            } else if (m.group("blank") == null) {
                tokens.add(new Token('?', m.start(), "", 0));
            }
        }
        tokens.add(new Token('e', text.length(), "", 0));
    }
}
