import java.io.IOException;
import java.nio.file.Files;
import java.nio.file.Path;
import java.util.ArrayList;
import java.util.HashMap;
import java.util.LinkedHashSet;
import java.util.List;
import java.util.Map;
import java.util.Set;
import java.util.TreeSet;
import java.util.regex.Matcher;
import java.util.regex.Pattern;

/** The grammar of section 6 as it stands in the document, read from there: which tokens may follow which. */
final class Grammar {
    /** A name that has no rule is a number: a row, a column, a pace and so on. */
    static final String NUMBER = "a number";
    /** What may follow when the setup may end. */
    static final String END = "the end";

    /** A part of a rule: a token, or alternatives of which each is a sequence of parts; it may stand there often. */
    private static final class Part {
        final String token;
        final List<List<Part>> ways = new ArrayList<>();
        boolean often;

        Part(String token) {
            this.token = token;
        }
    }

    /** What is still to come, first to last; null when nothing is. */
    private record Rest(Part first, Rest others) {
    }

    private final Map<String, Part> rules = new HashMap<>();
    private List<String> signs;
    private int place;
    private Set<Rest> rests = new LinkedHashSet<>();

    Grammar() throws IOException {
        String document = Files.readString(Path.of("../shared/DOC.md"));
        int start = document.indexOf("setup = \"floor\"");
        String text = document.substring(start, document.indexOf("\n\n", start));
        for (String line : text.split("\n")) {
            rules.put(line.substring(0, line.indexOf(" = ")), new Part(""));
        }
        for (String line : text.split("\n")) {
            read(line);
        }
        restart();
    }

    void restart() {
        rests.clear();
        rests.add(new Rest(rules.get("setup"), null));
    }

    // ---- reading the rules

    private void read(String line) {
        signs = new ArrayList<>();
        Matcher sign = Pattern.compile("\"[^\"]+\"|\\w+|[{}()|]").matcher(line.substring(line.indexOf(" = ") + 3));
        while (sign.find()) {
            signs.add(sign.group());
        }
        place = 0;
        readWays(rules.get(line.substring(0, line.indexOf(" = "))));
    }

    private void readWays(Part part) {
        List<Part> way = new ArrayList<>();
        part.ways.add(way);
        while (place < signs.size() && !signs.get(place).equals(")") && !signs.get(place).equals("}")) {
            String sign = signs.get(place++);
            if (sign.equals("|")) {
                way = new ArrayList<>();
                part.ways.add(way);
            } else if (sign.equals("(") || sign.equals("{")) {
                Part inner = new Part("");
                readWays(inner);
                inner.often = sign.equals("{");
                place++;
                way.add(inner);
            } else if (sign.startsWith("\"")) {
                way.add(new Part(sign.substring(1, sign.length() - 1)));
            } else {
                way.add(isNumber(sign) ? new Part(NUMBER) : rules.get(sign));
            }
        }
    }

    /** In "row" row and "column" column the second one is a number, as are all names without a rule. */
    private boolean isNumber(String name) {
        return !rules.containsKey(name);
    }

    // ---- following a text

    /** The tokens that may come next. */
    Set<String> next() {
        Set<String> tokens = new TreeSet<>();
        for (Rest rest : open()) {
            tokens.add(rest == null ? END : rest.first.token);
        }
        return tokens;
    }

    void take(String token) {
        Set<Rest> after = new LinkedHashSet<>();
        for (Rest rest : open()) {
            if (rest != null && rest.first.token.equals(token)) {
                after.add(rest.others);
            }
        }
        rests = after;
    }

    /** All rests, so far opened that each begins with a token. */
    private Set<Rest> open() {
        Set<Rest> opened = new LinkedHashSet<>();
        List<Rest> closed = new ArrayList<>(rests);
        while (!closed.isEmpty()) {
            Rest rest = closed.remove(closed.size() - 1);
            if (rest == null || !rest.first.token.isEmpty()) {
                opened.add(rest);
                continue;
            }
            if (rest.first.often) {
                closed.add(rest.others);
            }
            for (List<Part> way : rest.first.ways) {
                Rest longer = rest.first.often ? rest : rest.others;
                for (int i = way.size() - 1; i >= 0; i--) {
                    longer = new Rest(way.get(i), longer);
                }
                closed.add(longer);
            }
        }
        return opened;
    }
}
