import java.io.IOException;
import java.util.ArrayList;
import java.util.List;
import java.util.Set;

/**
 * Many texts, made by a fixed rule from the grammar that is read from the document: the first token that the grammar
 * does not allow is the one with the syntax error, and a text without such a token has none.
 */
final class GrammarTest {
    private static final int TEXTS = 40000;
    private static final String[] ALL = {"floor", "light", "pace", "drying", "rest", "stamina", "noise", "night", "walker",
        "cat", "curtain", "draught", "cloud", "rug", "bowl", "spill", "mop", "turn", "open", "close", "carry", "advance",
        "sleep", "repeat", "row", "column", "stay", "up", "down", "left", "right", ";", "(", ")", Grammar.NUMBER,
        "moves", "x", "tiles", "setting", "?", "-", "1000", "0001"};

    private static final int[] CODES = new int[5];

    private GrammarTest() {
    }

    public static void main(String[] args) throws IOException {
        Grammar grammar = new Grammar();
        Sentence.term("the grammar does not allow the token here");
        for (int i = 0; i < TEXTS; i++) {
            compare(grammar, text(grammar));
        }
        for (int code = 0; code < CODES.length; code++) {
            Check.due("many texts with code " + code, CODES[code] > (code < 2 ? 5000 : 10), true);
        }
        Check.end();
    }

    /** Tokens that may follow one another, with a wrong one now and then. */
    private static List<String> text(Grammar grammar) {
        List<String> tokens = new ArrayList<>();
        grammar.restart();
        for (int i = 0; i < 60; i++) {
            Set<String> next = grammar.next();
            if (next.contains(Grammar.END) && ModelTest.chance(8) || ModelTest.chance(1)) {
                break;
            }
            next.remove(Grammar.END);
            boolean wrong = next.isEmpty() || ModelTest.chance(3);
            String token = ModelTest.pick(wrong ? ALL : next.toArray(new String[0]));
            if (!wrong) {
                grammar.take(token);
            }
            tokens.add(token);
            if (wrong && ModelTest.chance(50)) {
                break;
            }
        }
        return tokens;
    }

    private static void compare(Grammar grammar, List<String> tokens) {
        StringBuilder text = new StringBuilder();
        int wrong = MoonlitFloor.NONE;
        grammar.restart();
        for (String token : tokens) {
            text.append(ModelTest.chance(80) || clings(text, token) ? " " : "");
            if (wrong == MoonlitFloor.NONE && !grammar.next().contains(token)) {
                wrong = text.length();
            }
            grammar.take(token);
            text.append(token.equals(Grammar.NUMBER) ? number(text) : token);
        }
        if (wrong == MoonlitFloor.NONE && !grammar.next().contains(Grammar.END)) {
            wrong = text.length();
        }
        if (text.length() <= 500) {
            look(text.toString(), wrong);
        }
    }

    /** Two words or two numbers need a space between them. */
    private static boolean clings(StringBuilder text, String token) {
        char last = text.length() == 0 ? ' ' : text.charAt(text.length() - 1);
        boolean number = token.equals(Grammar.NUMBER) || Character.isDigit(token.charAt(0));
        return number ? Character.isDigit(last) : Character.isLetter(token.charAt(0)) && Character.isLetter(last);
    }

    /** A number that is in range nearly everywhere: a floor of 8 times 8 has the columns 2 to 5. */
    private static String number(StringBuilder text) {
        boolean size = text.length() < 9;
        return size ? "8" : String.valueOf(2 + ModelTest.some(4));
    }

    /** An error of another kind may come before the syntax error, but not at it, and hides it. */
    private static void look(String text, int wrong) {
        MoonlitFloor floor = new MoonlitFloor();
        Check.fill(floor, text);
        try {
            floor.parseSetup(text.length());
        } catch (IllegalArgumentException e) {
            Check.due("an error of " + text, floor.parseErrorCode() > 0, true);
        }
        int code = floor.parseErrorCode();
        int position = floor.parseErrorPosition();
        CODES[code]++;
        if (code <= MoonlitFloor.SYNTAX_ERROR) {
            Check.due("position of the syntax error of " + text, position, wrong);
        } else {
            Check.due("error before the syntax error of " + text, wrong == MoonlitFloor.NONE || position < wrong, true);
        }
    }
}
