import java.util.ArrayList;
import java.util.Comparator;
import java.util.HashMap;
import java.util.HashSet;
import java.util.List;
import java.util.Map;
import java.util.Set;
import java.util.TreeMap;

/** The rules of the document once more, written in another way and without regard to cost. */
final class Model {
    static final class SetupError extends Exception {
        private static final long serialVersionUID = 1L;
        final int code;
        final int position;

        SetupError(int code, int position) {
            this.code = code;
            this.position = position;
        }
    }

    /** A night with its steps. */
    static final class Mark {
        final int night;
        final int steps;

        Mark(int night, int steps) {
            this.night = night;
            this.steps = steps;
        }
    }

    int rows;
    int columns;
    int light = 5;
    int drying = 10;
    int restTime = 0;
    int stamina = 0;
    int noise = 0;
    List<int[]> clouds = new ArrayList<>();
    Map<Integer, Integer> draughts = new HashMap<>();
    List<String> route = new ArrayList<>();

    int night = 15;
    int minute = 0;
    int pace = 1;
    Set<Integer> closed = new HashSet<>();
    Set<Integer> bowls = new HashSet<>();
    Set<Integer> rugs = new HashSet<>();
    Map<Integer, Integer> spills = new TreeMap<>();
    Map<Integer, Integer> wear = new HashMap<>();
    int slides = 0;
    boolean hasCat = false;
    int catRow;
    int catColumn;
    int routePlace = 0;
    boolean onFloor = false;
    int walkerRow;
    int column = 0;
    boolean right = true;
    int rest = 0;
    int sincePause = 0;
    int total = 0;
    int tonight = 0;
    int turns = 0;
    int falls = 0;
    List<Mark> marks = new ArrayList<>();

    Model copy() {
        Model m = new Model();
        m.rows = rows;
        m.columns = columns;
        m.light = light;
        m.drying = drying;
        m.restTime = restTime;
        m.stamina = stamina;
        m.noise = noise;
        m.clouds = new ArrayList<>(clouds);
        m.draughts = new HashMap<>(draughts);
        m.route = new ArrayList<>(route);
        m.night = night;
        m.minute = minute;
        m.pace = pace;
        m.closed = new HashSet<>(closed);
        m.bowls = new HashSet<>(bowls);
        m.rugs = new HashSet<>(rugs);
        m.spills = new TreeMap<>(spills);
        m.wear = new HashMap<>(wear);
        m.slides = slides;
        m.hasCat = hasCat;
        m.catRow = catRow;
        m.catColumn = catColumn;
        m.routePlace = routePlace;
        m.onFloor = onFloor;
        m.walkerRow = walkerRow;
        m.column = column;
        m.right = right;
        m.rest = rest;
        m.sincePause = sincePause;
        m.total = total;
        m.tonight = tonight;
        m.turns = turns;
        m.falls = falls;
        m.marks = new ArrayList<>(marks);
        return m;
    }

    // ---- what can be asked

    int bright() {
        int age = night % 30;
        return age > 15 ? 30 - age : age;
    }

    boolean shines() {
        for (int[] cloud : clouds) {
            if (cloud[0] <= minute && minute <= cloud[1]) {
                return false;
            }
        }
        return bright() != 0;
    }

    boolean lit(int row, int col) {
        return shines() && minute / light == row && !closed.contains(col);
    }

    boolean lit(int tile) {
        return lit(tile / columns, tile % columns);
    }

    int tries() {
        return shines() ? Math.min(pace, 1 + bright() / 4) : 0;
    }

    int walkerTile() {
        return onFloor ? walkerRow * columns + column : -1;
    }

    int catTile() {
        return hasCat ? catRow * columns + catColumn : -1;
    }

    int tiles() {
        return rows * columns;
    }

    int block() {
        int next = right ? column + 1 : column - 1;
        if (!onFloor) {
            return 1;
        } else if (!shines()) {
            return 2;
        } else if (rest != 0) {
            return 3;
        } else if (next < 0 || next == columns) {
            return 4;
        } else if (closed.contains(next)) {
            return 5;
        }
        return spills.containsKey(walkerRow * columns + next) ? 6 : 0;
    }

    /** Puts a mark among the others and looks where it comes. */
    int rankOf(int steps) {
        List<Mark> all = new ArrayList<>(marks);
        Mark mark = new Mark(night, steps);
        all.add(mark);
        all.sort(Comparator.comparingInt((Mark m) -> -m.steps).thenComparingInt(m -> m.night));
        int rank = all.indexOf(mark);
        return rank > 9 ? -1 : rank;
    }

    String row(int row) {
        StringBuilder s = new StringBuilder();
        for (int tile = row * columns; tile < (row + 1) * columns; tile++) {
            s.append(tile == walkerTile() ? "W" : tile == catTile() ? "C" : bowls.contains(tile) ? "o"
                    : spills.containsKey(tile) ? "~" : rugs.contains(tile) ? "r" : lit(tile) ? "*" : ".");
        }
        return s.toString();
    }

    String records() {
        List<String> parts = new ArrayList<>();
        for (Mark mark : marks) {
            parts.add(mark.night + ":" + mark.steps);
        }
        return parts.isEmpty() ? "-" : String.join(" ", parts);
    }

    // ---- a minute

    Model after(int minutes) {
        Model m = copy();
        m.go(minutes);
        return m;
    }

    void go(int minutes) {
        for (int i = 0; i < minutes; i++) {
            cat();
            if (rest > 0) {
                rest--;
            } else if (onFloor) {
                steps();
            }
            dry();
            minute++;
            if (minute == rows * light) {
                night();
            }
            for (Map.Entry<Integer, Integer> draught : draughts.entrySet()) {
                if (minute % draught.getValue() == 0 && !closed.remove(draught.getKey())) {
                    closed.add(draught.getKey());
                }
            }
            relocate();
        }
    }

    private void cat() {
        if (!hasCat || route.isEmpty()) {
            return;
        }
        String move = route.get(routePlace);
        routePlace = routePlace + 1 == route.size() ? 0 : routePlace + 1;
        int r = catRow + (move.equals("down") ? 1 : move.equals("up") ? -1 : 0);
        int c = catColumn + (move.equals("right") ? 1 : move.equals("left") ? -1 : 0);
        if (r >= 0 && r < rows && c >= 0 && c < columns && !spills.containsKey(r * columns + c)) {
            catRow = r;
            catColumn = c;
        }
        if (!bowls.remove(catTile())) {
            return;
        }
        spills.put(catTile(), drying);
        if (!onFloor) {
            return;
        }
        if (walkerTile() == catTile()) {
            falls++;
            rest = restTime;
            sincePause = 0;
        } else if (Math.abs(catRow - walkerRow) + Math.abs(catColumn - column) <= noise) {
            right = catColumn < column || catColumn == column && right;
        }
    }

    private void steps() {
        int tries = tries();
        while (tries-- > 0) {
            int step = right ? 1 : -1;
            int next = column + step;
            int tile = walkerRow * columns + next;
            if (next < 0 || next >= columns || closed.contains(next) || spills.containsKey(tile)) {
                right = !right;
                turns++;
                continue;
            }
            column = next;
            total++;
            tonight++;
            wear.merge(tile, 1, Integer::sum);
            int beyond = next + step;
            if (rugs.contains(tile) && beyond >= 0 && beyond < columns && !rugs.contains(tile + step)
                    && !spills.containsKey(tile + step) && !bowls.contains(tile + step)) {
                rugs.remove(tile);
                rugs.add(tile + step);
                slides++;
            }
            sincePause++;
            if (sincePause == stamina) {
                sincePause = 0;
                rest = 1;
                return;
            }
        }
    }

    private void dry() {
        Map<Integer, Integer> left = new TreeMap<>();
        for (Map.Entry<Integer, Integer> spill : spills.entrySet()) {
            int time = spill.getValue() - (rugs.contains(spill.getKey()) ? 2 : 1);
            if (time > 0) {
                left.put(spill.getKey(), time);
            }
        }
        spills = left;
    }

    private void night() {
        if (tonight > 0) {
            marks.add(new Mark(night, tonight));
            marks.sort(Comparator.comparingInt((Mark m) -> -m.steps).thenComparingInt(m -> m.night));
            if (marks.size() > 10) {
                marks.remove(10);
            }
        }
        night++;
        minute = 0;
        tonight = 0;
    }

    void relocate() {
        if (!shines() || onFloor && lit(walkerRow, column)) {
            return;
        }
        int row = minute / light;
        int best = -1;
        for (int c = 0; c < columns; c++) {
            boolean free = lit(row, c) && !spills.containsKey(row * columns + c);
            if (free && (best < 0 || Math.abs(c - column) < Math.abs(best - column))) {
                best = c;
            }
        }
        onFloor = best >= 0;
        if (onFloor) {
            walkerRow = row;
            column = best;
        }
    }

    // ---- the setup, by recursive descent over the text itself

    static Model parse(String text) throws SetupError {
        Parser parser = new Parser(text);
        parser.setup();
        return parser.m;
    }

    private static final class Parser {
        final String text;
        final Model m = new Model();
        int pos = 0;
        int simulated = 0;
        boolean anyEvent = false;

        Parser(String text) {
            this.text = text;
        }

        SetupError error(int code, int at) {
            return new SetupError(code, at);
        }

        int start() {
            while (pos < text.length() && text.charAt(pos) == ' ') {
                pos++;
            }
            return pos;
        }

        /** The text of the next token, which stays ahead; "" at the end. */
        String peek() throws SetupError {
            int from = start();
            if (from == text.length()) {
                return "";
            }
            int to = from;
            while (to < text.length() && text.charAt(to) >= 'a' && text.charAt(to) <= 'z') {
                to++;
            }
            if (to > from) {
                if (to - from > 7) {
                    throw error(1, from);
                }
                return text.substring(from, to);
            }
            while (to < text.length() && text.charAt(to) >= '0' && text.charAt(to) <= '9') {
                to++;
            }
            if (to > from) {
                if (to - from > 3) {
                    throw error(1, from);
                }
                return text.substring(from, to);
            }
            if (";()".indexOf(text.charAt(from)) < 0) {
                throw error(1, from);
            }
            return text.substring(from, from + 1);
        }

        boolean atNumber() throws SetupError {
            String token = peek();
            return !token.isEmpty() && Character.isDigit(token.charAt(0));
        }

        boolean takes(String token) throws SetupError {
            if (!peek().equals(token)) {
                return false;
            }
            pos += token.length();
            return true;
        }

        void need(String token) throws SetupError {
            int from = start();
            if (!takes(token)) {
                throw error(1, from);
            }
        }

        int number(int low, int high) throws SetupError {
            int from = start();
            if (!atNumber()) {
                throw error(1, from);
            }
            String token = peek();
            int value = Integer.parseInt(token);
            if (value < low || value > high) {
                throw error(2, from);
            }
            pos += token.length();
            return value;
        }

        int column() throws SetupError {
            return number(0, m.columns - 1);
        }

        int tile() throws SetupError {
            return number(0, m.tiles() - 1);
        }

        void setup() throws SetupError {
            need("floor");
            m.rows = number(2, 8);
            m.columns = number(2, 10);
            while (takes(";")) {
                int from = start();
                String word = peek();
                if (anyEvent) {
                    event();
                } else if (!setting(word, from)) {
                    m.relocate();
                    anyEvent = true;
                    event();
                }
            }
            if (start() != text.length()) {
                peek();
                throw error(1, pos);
            }
            if (!anyEvent) {
                m.relocate();
            }
        }

        boolean setting(String word, int from) throws SetupError {
            if (word.equals("cloud") && m.clouds.size() == 4) {
                throw error(4, from);
            }
            if (!List.of("light", "pace", "drying", "rest", "stamina", "noise", "night", "walker", "cat", "curtain",
                    "draught", "cloud", "rug").contains(word)) {
                return false;
            }
            pos += word.length();
            switch (word) {
                case "light" -> m.light = number(1, 20);
                case "pace" -> m.pace = number(1, 5);
                case "drying" -> m.drying = number(1, 99);
                case "rest" -> m.restTime = number(0, 9);
                case "stamina" -> m.stamina = number(0, 99);
                case "noise" -> m.noise = number(0, 20);
                case "night" -> m.night = number(0, 999);
                case "walker" -> {
                    m.column = column();
                    m.right = !takes("left");
                    if (m.right) {
                        need("right");
                    }
                }
                case "cat" -> cat();
                case "curtain" -> curtains(true);
                case "draught" -> {
                    int c = column();
                    m.draughts.put(c, number(2, 60));
                }
                case "cloud" -> {
                    int first = number(0, 159);
                    m.clouds.add(new int[] {first, number(first, 159)});
                }
                default -> tiles("rug");
            }
            return true;
        }

        void cat() throws SetupError {
            int tile = tile();
            m.hasCat = true;
            m.catRow = tile / m.columns;
            m.catColumn = tile % m.columns;
            m.route.clear();
            while (List.of("stay", "up", "down", "left", "right").contains(peek())) {
                if (m.route.size() == 30) {
                    throw error(4, start());
                }
                String move = peek();
                m.route.add(move);
                pos += move.length();
            }
        }

        void curtains(boolean close) throws SetupError {
            do {
                int from = start();
                int c = column();
                if (m.closed.contains(c) == close) {
                    throw error(3, from);
                }
                if (close) {
                    m.closed.add(c);
                } else {
                    m.closed.remove(c);
                }
            } while (atNumber());
        }

        void tiles(String thing) throws SetupError {
            do {
                List<Integer> wanted = new ArrayList<>();
                if (takes("row")) {
                    int from = start();
                    int r = number(0, m.rows - 1);
                    for (int c = 0; c < m.columns; c++) {
                        wanted.add(r * m.columns + c);
                    }
                    wanted.removeIf(t -> !fits(thing, t));
                    place(thing, wanted, from);
                } else if (takes("column")) {
                    int from = start();
                    int c = column();
                    for (int r = 0; r < m.rows; r++) {
                        wanted.add(r * m.columns + c);
                    }
                    wanted.removeIf(t -> !fits(thing, t));
                    place(thing, wanted, from);
                } else {
                    int from = start();
                    int t = tile();
                    if (!fits(thing, t)) {
                        throw error(3, from);
                    }
                    wanted.add(t);
                    place(thing, wanted, from);
                }
            } while (atNumber() || peek().equals("row") || peek().equals("column"));
        }

        boolean fits(String thing, int t) {
            return switch (thing) {
                case "rug" -> !m.rugs.contains(t);
                case "bowl" -> !m.bowls.contains(t) && !m.spills.containsKey(t);
                default -> m.spills.containsKey(t);
            };
        }

        void place(String thing, List<Integer> tiles, int from) throws SetupError {
            if (thing.equals("rug")) {
                m.rugs.addAll(tiles);
                if (m.rugs.size() > 6) {
                    throw error(4, from);
                }
            } else if (thing.equals("bowl")) {
                m.bowls.addAll(tiles);
            } else {
                m.spills.keySet().removeAll(tiles);
            }
        }

        private int depth = 0;

        void event() throws SetupError {
            int from = start();
            String word = peek();
            if (word.equals("repeat") && depth == 3) {
                throw error(4, from);
            }
            pos += word.length();
            switch (word) {
                case "bowl", "mop" -> tiles(word);
                case "spill" -> {
                    int at = start();
                    int t = tile();
                    if (m.bowls.contains(t) || m.spills.containsKey(t)) {
                        throw error(3, at);
                    }
                    m.spills.put(t, number(1, 99));
                }
                case "turn" -> m.right = !m.right;
                case "pace" -> m.pace = number(1, 5);
                case "open" -> curtains(false);
                case "close" -> curtains(true);
                case "carry" -> {
                    int at = start();
                    int t = tile();
                    if (!m.hasCat) {
                        throw error(3, at);
                    }
                    m.catRow = t / m.columns;
                    m.catColumn = t % m.columns;
                }
                case "advance" -> {
                    int at = start();
                    int minutes = number(1, 300);
                    simulate(minutes, at);
                }
                case "sleep" -> simulate(m.rows * m.light - m.minute, from);
                case "repeat" -> repeat();
                default -> throw error(1, from);
            }
        }

        void simulate(int minutes, int at) throws SetupError {
            simulated += minutes;
            if (simulated > 2000) {
                throw error(4, at);
            }
            m.go(minutes);
        }

        void repeat() throws SetupError {
            int count = number(1, 5);
            need("(");
            int body = pos;
            depth++;
            for (int pass = 0; pass < count; pass++) {
                pos = body;
                event();
                while (takes(";")) {
                    event();
                }
                need(")");
            }
            depth--;
        }
    }
}
