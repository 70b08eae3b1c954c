/** Makes setups by a fixed rule; most are valid, some have an error. */
final class Setups {
    /** How far errors are wanted, and the size of the floor. */
    static final class State {
        int rows;
        int columns;
        int wild = ModelTest.chance(50) ? 0 : 1 + ModelTest.some(6);
    }

    private Setups() {
    }

    static String make(State s) {
        StringBuilder text = new StringBuilder("floor ");
        s.rows = 2 + ModelTest.some(ModelTest.chance(30) ? 7 : 3);
        s.columns = 2 + ModelTest.some(ModelTest.chance(30) ? 9 : 5);
        text.append(s.rows).append(space()).append(s.columns);
        int settings = ModelTest.some(10);
        for (int i = 0; i < settings; i++) {
            text.append(semicolon()).append(setting(s));
        }
        int events = ModelTest.some(7);
        for (int i = 0; i < events; i++) {
            text.append(semicolon()).append(event(s, 0));
        }
        if (ModelTest.chance(5 * s.wild)) {
            damage(text);
        }
        if (text.length() > 500) {
            text.setLength(Math.max(text.lastIndexOf(";", 500), 9));
        }
        return text.toString();
    }

    private static String space() {
        return ModelTest.chance(95) ? " " : "   ";
    }

    private static String semicolon() {
        return ModelTest.pick(";", ";", ";", " ;", "; ", " ; ");
    }

    private static String number(State s, int low, int high) {
        int number = low + ModelTest.some(high - low + 1);
        if (ModelTest.chance(s.wild)) {
            number = ModelTest.chance(50) ? high + 1 : Math.max(0, low - 1);
        }
        return (ModelTest.chance(3) ? "0" : "") + number;
    }

    private static String column(State s) {
        return number(s, 0, s.columns - 1);
    }

    private static String tile(State s) {
        return number(s, 0, s.rows * s.columns - 1);
    }

    private static String items(State s) {
        StringBuilder items = new StringBuilder();
        int count = 1 + ModelTest.some(3);
        for (int i = 0; i < count; i++) {
            items.append(' ');
            int kind = ModelTest.some(10);
            items.append(kind == 0 ? "row " + number(s, 0, s.rows - 1) : kind == 1 ? "column " + column(s) : tile(s));
        }
        return items.toString();
    }

    private static String columns(State s) {
        StringBuilder columns = new StringBuilder(" ");
        columns.append(column(s));
        while (ModelTest.chance(30)) {
            columns.append(' ').append(column(s));
        }
        return columns.toString();
    }

    private static String setting(State s) {
        switch (ModelTest.some(16)) {
            case 0: return "light " + number(s, 1, ModelTest.chance(80) ? 6 : 20);
            case 1, 2: return "pace " + number(s, 1, 5);
            case 3: return "drying " + number(s, 1, 99);
            case 4: return "rest " + number(s, 0, 9);
            case 5: return "stamina " + number(s, 0, ModelTest.chance(50) ? 10 : 99);
            case 6: return "noise " + number(s, 0, ModelTest.chance(80) ? 5 : 20);
            case 7: return "night " + number(s, 0, 999);
            case 8: return "walker " + column(s) + " " + ModelTest.pick("left", "right");
            case 9, 10, 11: return cat(s);
            case 12: return "curtain" + columns(s);
            case 13: return "draught " + column(s) + " " + number(s, 2, ModelTest.chance(60) ? 12 : 60);
            case 14: {
                int first = ModelTest.some(ModelTest.chance(80) ? 20 : 160);
                return "cloud " + first + " " + number(s, first, Math.min(159, first + 10));
            }
            default: return "rug" + items(s);
        }
    }

    private static String cat(State s) {
        StringBuilder cat = new StringBuilder("cat ").append(tile(s));
        int moves = ModelTest.chance(6) ? 29 + ModelTest.some(3) : ModelTest.some(9);
        for (int i = 0; i < moves; i++) {
            cat.append(' ').append(ModelTest.pick("up", "down", "left", "right", "stay"));
        }
        return cat.toString();
    }

    private static String event(State s, int depth) {
        switch (ModelTest.some(depth > 3 ? 14 : 16)) {
            case 0, 1, 2, 3: return "bowl" + items(s);
            case 4: return "spill " + tile(s) + " " + number(s, 1, 99);
            case 5: return "mop" + items(s).replaceAll(" \\d+$", " row 0");
            case 6: return "turn";
            case 7: return "pace " + number(s, 1, 5);
            case 8: return "close" + columns(s);
            case 9: return "open" + columns(s);
            case 10: return "carry " + tile(s);
            case 11: return "advance " + number(s, 1, ModelTest.chance(80) ? 30 : 300);
            case 12: return "sleep";
            case 13: return ModelTest.chance(s.wild) ? setting(s) : "turn";
            default: {
                StringBuilder repeat = new StringBuilder("repeat ").append(number(s, 1, 5)).append("(");
                repeat.append(event(s, depth + 1));
                while (ModelTest.chance(30)) {
                    repeat.append(semicolon()).append(event(s, depth + 1));
                }
                return repeat.append(")").toString();
            }
        }
    }

    private static void damage(StringBuilder text) {
        int place = ModelTest.some(text.length());
        switch (ModelTest.some(4)) {
            case 0 -> text.deleteCharAt(place);
            case 1 -> text.setCharAt(place, (char) (ModelTest.chance(50) ? 32 + ModelTest.some(96) : ModelTest.some(256)));
            case 2 -> text.insert(place, ModelTest.pick(";", "(", ")", " ", "0", "x", "row ", "cloud 1 2", "-"));
            default -> text.setLength(place);
        }
    }
}
