import java.util.ArrayDeque;
import java.util.Deque;
import java.util.List;

/** Many runs of calls, made by a fixed rule, on a floor and on the model of it; every answer must be the same. */
final class ModelTest {
    private static final int RUNS = 12000;
    private static final int MAX_CALLS = 512;
    private static final String ISE = "java.lang.IllegalStateException";
    private static final String IAE = "java.lang.IllegalArgumentException";
    private static final String IOOBE = "java.lang.IndexOutOfBoundsException";

    private static long seed = 20261119L;
    private static int validSetups = 0;
    private static final int[] ERRORS = new int[5];

    private final MoonlitFloor floor = new MoonlitFloor();
    private final StringBuilder buffer = new StringBuilder();
    private final Deque<Model> past = new ArrayDeque<>();
    private final Model[] saved = new Model[2];
    private final StringBuilder log = new StringBuilder();
    private Model m = null;
    private int errorCode = 0;
    private int errorPosition = -1;
    private String output = "";
    private int calls = 0;

    /** Some number from 0 to bound - 1; the same ones each time. */
    static int some(int bound) {
        seed = seed * 6364136223846793005L + 1442695040888963407L;
        return (int) ((seed >>> 33) % bound);
    }

    static boolean chance(int percent) {
        return some(100) < percent;
    }

    static String pick(String... words) {
        return words[some(words.length)];
    }

    public static void main(String[] args) {
        for (int run = 0; run < RUNS; run++) {
            if (!new ModelTest().run(run)) {
                break;
            }
        }
        Check.due("many valid setups", validSetups > RUNS / 2, true);
        for (int code = 1; code <= 4; code++) {
            Check.due("many setups with error " + code, ERRORS[code] > 100, true);
        }
        Check.end();
    }

    private boolean run(int run) {
        int setups = 1 + some(4);
        boolean same = true;
        for (int i = 0; i < setups && same; i++) {
            same = chance(8) || setup();
            int steps = some(MAX_CALLS / setups);
            for (int k = 0; k < steps && same && calls < MAX_CALLS; k++) {
                same = change(chance(30) ? some(12) : 12 + some(57));
            }
        }
        if (!same) {
            System.out.println("run " + run + ":" + log);
        }
        return same;
    }

    /** Whether the floor answers a call as is due. */
    private boolean same(String call, String want, Check.Call onFloor) {
        calls++;
        log.append('\n').append(call);
        String got;
        try {
            got = String.valueOf(onFloor.answer());
        } catch (RuntimeException e) {
            got = e.getClass().getName();
        }
        Check.due(call, got, want);
        return got.equals(want);
    }

    // ---- setups

    private boolean setup() {
        Setups.State state = new Setups.State();
        String text = Setups.make(state);
        for (int i = 0; i < text.length(); i += 20) {
            StringBuilder part = new StringBuilder(text.substring(i, Math.min(i + 20, text.length())));
            while (part.length() < 20) {
                part.append(chance(90) ? ' ' : 'x');
            }
            if (!append(part.toString())) {
                return false;
            }
        }
        int length = chance(3) ? some(520) - 10 : Math.min(text.length(), buffer.length());
        return parse(length);
    }

    private boolean append(String twenty) {
        int[] w = new int[5];
        for (int i = 0; i < 20; i++) {
            w[i / 4] = w[i / 4] << 8 | twenty.charAt(i);
        }
        String want = "-1";
        if (buffer.length() <= 480) {
            buffer.append(twenty);
            want = String.valueOf(buffer.length());
        }
        return same("append \"" + twenty + "\"", want, () -> floor.append(w[0], w[1], w[2], w[3], w[4]));
    }

    private boolean parse(int length) {
        String want;
        if (length < 0 || length > buffer.length()) {
            want = IOOBE;
        } else {
            String text = buffer.substring(0, length);
            buffer.setLength(0);
            try {
                m = Model.parse(text);
                past.clear();
                saved[0] = null;
                saved[1] = null;
                errorCode = 0;
                errorPosition = -1;
                want = String.valueOf(m.tiles());
                validSetups++;
            } catch (Model.SetupError e) {
                errorCode = e.code;
                errorPosition = e.position;
                want = IAE;
                ERRORS[e.code]++;
            }
        }
        return same("parseSetup " + length, want, () -> floor.parseSetup(length))
                && same("parseErrorCode", String.valueOf(errorCode), floor::parseErrorCode)
                && same("parseErrorPosition", String.valueOf(errorPosition), floor::parseErrorPosition);
    }

    // ---- the other calls

    /** Some index that is nearly always from 0 to bound - 1. */
    private static int index(int bound) {
        int index = chance(94) ? some(bound) : some(bound + 4) - 2;
        return chance(1) ? pick("x", "y").equals("x") ? Integer.MIN_VALUE : Integer.MAX_VALUE : index;
    }

    private static int minutes() {
        return chance(70) ? some(30) : chance(80) ? some(301) : 299 + some(4) - (chance(30) ? 301 : 0);
    }

    private String due(boolean wrong, String exception, Object answer) {
        return wrong ? exception : String.valueOf(answer);
    }

    private void remember() {
        past.push(m.copy());
        if (past.size() > 8) {
            past.removeLast();
        }
    }

    private boolean change(int which) {
        int tile = index(m == null ? 10 : m.tiles());
        int column = index(m == null ? 5 : m.columns);
        int minutes = minutes();
        boolean noTile = m == null || tile < 0 || tile >= m.tiles();
        boolean noColumn = m == null || column < 0 || column >= m.columns;
        boolean noMinutes = minutes < 0 || minutes > 300;
        if (m == null && which != 6 && which != 7 && which != 9 && which != 10 && which != 11 && which != 12
                && which != 13) {
            return beforeSetup(which, tile, column, minutes);
        }
        switch (which) {
            case 0 -> {
                String want = IAE;
                if (minutes >= 1 && minutes <= 300) {
                    remember();
                    int before = m.total;
                    m.go(minutes);
                    want = String.valueOf(m.total - before);
                }
                return same("advance " + minutes, want, () -> floor.advance(minutes));
            }
            case 1 -> {
                int pace = index(5) + 1;
                String want = IAE;
                if (pace >= 1 && pace <= 5) {
                    remember();
                    want = String.valueOf(m.pace);
                    m.pace = pace;
                }
                return same("setPace " + pace, want, () -> floor.setPace(pace));
            }
            case 2 -> {
                boolean close = chance(40);
                String want = IOOBE;
                if (!noColumn) {
                    remember();
                    want = String.valueOf(close ? !m.closed.add(column) : m.closed.remove(column));
                }
                return same("setCurtain " + column + " " + close, want, () -> floor.setCurtain(column, close));
            }
            case 3 -> {
                String want = noTile ? IOOBE : IAE;
                if (!noTile && !m.bowls.contains(tile) && !m.spills.containsKey(tile)) {
                    remember();
                    m.bowls.add(tile);
                    want = String.valueOf(m.bowls.size());
                }
                return same("placeBowl " + tile, want, () -> floor.placeBowl(tile));
            }
            case 4 -> {
                int spill = !m.spills.isEmpty() && chance(80) ? m.spills.keySet().iterator().next() : tile;
                String want = spill < 0 || spill >= m.tiles() ? IOOBE : IAE;
                if (m.spills.containsKey(spill)) {
                    remember();
                    want = String.valueOf(m.spills.remove(spill));
                }
                return same("mop " + spill, want, () -> floor.mop(spill));
            }
            case 5 -> {
                remember();
                m.right = !m.right;
                return same("turnWalker", String.valueOf(m.right), floor::turnWalker);
            }
            case 6 -> {
                String want = ISE;
                if (!past.isEmpty()) {
                    m = past.pop();
                    want = String.valueOf(past.size());
                }
                return same("undo", want, floor::undo);
            }
            case 7 -> {
                return same("undoCount", String.valueOf(past.size()), floor::undoCount);
            }
            case 8 -> {
                int slot = index(2);
                boolean wrong = slot < 0 || slot > 1;
                if (!wrong) {
                    saved[slot] = m.copy();
                }
                return same("saveState " + slot, due(wrong, IOOBE, m.night), () -> floor.saveState(slot));
            }
            case 9 -> {
                int slot = index(2);
                String want = slot < 0 || slot > 1 ? IOOBE : ISE;
                if (slot >= 0 && slot <= 1 && saved[slot] != null) {
                    m = saved[slot].copy();
                    past.clear();
                    want = String.valueOf(m.night);
                }
                return same("restoreState " + slot, want, () -> floor.restoreState(slot));
            }
            case 10 -> {
                return same("bufferLength", String.valueOf(buffer.length()), floor::bufferLength);
            }
            case 11 -> {
                return same("parseErrorCode", String.valueOf(errorCode), floor::parseErrorCode)
                        && same("parseErrorPosition", String.valueOf(errorPosition), floor::parseErrorPosition);
            }
            case 12, 13 -> {
                int i = index(Math.max(1, output.length()));
                boolean wrong = i < 0 || i >= output.length();
                return same("outputByte " + i, wrong ? IOOBE : String.valueOf((int) output.charAt(i)),
                        () -> floor.outputByte(i));
            }
            default -> {
                return ask(which - 14, tile, column, minutes, noTile, noColumn, noMinutes);
            }
        }
    }

    private boolean beforeSetup(int which, int tile, int column, int minutes) {
        List<Check.Call> all = List.of(floor::rows, floor::columns, floor::minutesPerRow, floor::night, floor::minute,
                floor::brightness, floor::moonRow, floor::moonShines, () -> floor.isLit(tile),
                () -> floor.isCurtainClosed(column), () -> floor.draughtPeriod(column),
                () -> floor.minutesUntilLit(tile), floor::nightsUntilFullMoon, floor::pace, floor::stepsPerMinute,
                floor::walkerTile, floor::facesRight, floor::restRemaining, floor::stepsSincePause, floor::totalSteps,
                floor::stepsTonight, floor::turnCount, floor::fallCount, floor::blockReason, () -> floor.wear(tile),
                floor::catTile, () -> floor.hasRug(tile), floor::slideCount, () -> floor.hasBowl(tile),
                () -> floor.spillTime(tile), floor::spillCount, floor::recordCount, () -> floor.recordNight(tile),
                () -> floor.recordSteps(tile), () -> floor.rankOf(tile), floor::imbalance, floor::averageWear,
                floor::litShare, () -> floor.stepsAfter(minutes), () -> floor.walkerTileAfter(minutes),
                () -> floor.spillTimeAfter(tile, minutes), () -> floor.minutesUntilStep(tile),
                floor::minutesUntilFall, () -> floor.stepsAtPace(tile, minutes), () -> floor.bestPace(minutes),
                () -> floor.bestCurtain(minutes), () -> floor.writeRow(tile), floor::writeRecords,
                () -> floor.advance(minutes), () -> floor.setPace(tile), () -> floor.setCurtain(column, true),
                () -> floor.placeBowl(tile), () -> floor.mop(tile), floor::turnWalker, () -> floor.saveState(tile));
        return same("call " + which % all.size() + " before the setup", ISE, all.get(which % all.size()));
    }

    private boolean ask(int which, int tile, int column, int minutes, boolean noTile, boolean noColumn,
            boolean noMinutes) {
        switch (which) {
            case 0: return same("rows", "" + m.rows, floor::rows);
            case 1: return same("columns", "" + m.columns, floor::columns);
            case 2: return same("minutesPerRow", "" + m.light, floor::minutesPerRow);
            case 3: return same("night", "" + m.night, floor::night);
            case 4: return same("minute", "" + m.minute, floor::minute);
            case 5: return same("brightness", "" + m.bright(), floor::brightness);
            case 6: return same("moonRow", "" + m.minute / m.light, floor::moonRow);
            case 7: return same("moonShines", "" + m.shines(), floor::moonShines);
            case 8: return same("isLit " + tile, noTile ? IOOBE : "" + m.lit(tile), () -> floor.isLit(tile));
            case 9: return same("isCurtainClosed " + column, due(noColumn, IOOBE, m.closed.contains(column)),
                    () -> floor.isCurtainClosed(column));
            case 10: return same("draughtPeriod " + column,
                    due(noColumn, IOOBE, m.draughts.getOrDefault(column, 0)), () -> floor.draughtPeriod(column));
            case 11: return same("minutesUntilLit " + tile, noTile ? IOOBE : "" + untilLit(tile),
                    () -> floor.minutesUntilLit(tile));
            case 12: return same("nightsUntilFullMoon", "" + untilFullMoon(), floor::nightsUntilFullMoon);
            case 13: return same("pace", "" + m.pace, floor::pace);
            case 14: return same("stepsPerMinute", "" + m.tries(), floor::stepsPerMinute);
            case 15: return same("walkerTile", "" + m.walkerTile(), floor::walkerTile);
            case 16: return same("facesRight", "" + m.right, floor::facesRight);
            case 17: return same("restRemaining", "" + m.rest, floor::restRemaining);
            case 18: return same("stepsSincePause", "" + m.sincePause, floor::stepsSincePause);
            case 19: return same("totalSteps", "" + m.total, floor::totalSteps);
            case 20: return same("stepsTonight", "" + m.tonight, floor::stepsTonight);
            case 21: return same("turnCount", "" + m.turns, floor::turnCount);
            case 22: return same("fallCount", "" + m.falls, floor::fallCount);
            case 23: return same("blockReason", "" + m.block(), floor::blockReason);
            case 24: return same("wear " + tile, due(noTile, IOOBE, m.wear.getOrDefault(tile, 0)),
                    () -> floor.wear(tile));
            case 25: return same("catTile", "" + m.catTile(), floor::catTile);
            case 26: return same("hasRug " + tile, due(noTile, IOOBE, m.rugs.contains(tile)),
                    () -> floor.hasRug(tile));
            case 27: return same("slideCount", "" + m.slides, floor::slideCount);
            case 28: return same("hasBowl " + tile, due(noTile, IOOBE, m.bowls.contains(tile)),
                    () -> floor.hasBowl(tile));
            case 29: return same("spillTime " + tile, due(noTile, IOOBE, m.spills.getOrDefault(tile, 0)),
                    () -> floor.spillTime(tile));
            case 30: return same("spillCount", "" + m.spills.size(), floor::spillCount);
            default: return askMore(which, tile, minutes, noTile, noMinutes);
        }
    }

    private boolean askMore(int which, int tile, int minutes, boolean noTile, boolean noMinutes) {
        int rank = index(Math.max(1, m.marks.size()));
        boolean noRank = rank < 0 || rank >= m.marks.size();
        int pace = index(5) + 1;
        int row = index(m.rows);
        int steps = index(60) + 1;
        switch (which) {
            case 31: return same("recordCount", "" + m.marks.size(), floor::recordCount);
            case 32: return same("recordNight " + rank, noRank ? IOOBE : "" + m.marks.get(rank).night,
                    () -> floor.recordNight(rank));
            case 33: return same("recordSteps " + rank, noRank ? IOOBE : "" + m.marks.get(rank).steps,
                    () -> floor.recordSteps(rank));
            case 34: return same("rankOf " + steps, steps < 1 ? IAE : "" + m.rankOf(steps),
                    () -> floor.rankOf(steps));
            case 35: return same("imbalance", "0", floor::imbalance);
            case 36: return same("averageWear", "" + m.total / (double) m.tiles(), floor::averageWear);
            case 37: return same("litShare", "" + litTiles() / (float) m.tiles(), floor::litShare);
            case 38: return same("stepsAfter " + minutes, noMinutes ? IAE : "" + m.after(minutes).total,
                    () -> floor.stepsAfter(minutes));
            case 39: return same("walkerTileAfter " + minutes, noMinutes ? IAE : "" + m.after(minutes).walkerTile(),
                    () -> floor.walkerTileAfter(minutes));
            case 40: return same("spillTimeAfter " + tile + " " + minutes, noTile ? IOOBE
                    : noMinutes ? IAE : "" + m.after(minutes).spills.getOrDefault(tile, 0),
                    () -> floor.spillTimeAfter(tile, minutes));
            case 41: return same("minutesUntilStep " + tile, noTile ? IOOBE : "" + untilStep(tile),
                    () -> floor.minutesUntilStep(tile));
            case 42: return same("minutesUntilFall", "" + untilFall(), floor::minutesUntilFall);
            case 43: return same("stepsAtPace " + pace + " " + minutes, noMinutes || pace < 1 || pace > 5 ? IAE
                    : "" + atPace(pace, minutes), () -> floor.stepsAtPace(pace, minutes));
            case 44: return same("bestPace " + minutes, noMinutes ? IAE : "" + bestPace(minutes),
                    () -> floor.bestPace(minutes));
            case 45, 46: return same("bestCurtain " + minutes, noMinutes ? IAE : "" + bestCurtain(minutes),
                    () -> floor.bestCurtain(minutes));
            case 47, 48, 49, 50: return writesRow(row);
            case 51, 52: return writes("writeRecords", m.records(), floor::writeRecords);
            case 53: return append(pick("floor 2 2;night 1   ", "x 234567890123456789", "\u0000\u0001\u0080\u00ff abc"
                    + " d e f g h i"));
            default: return parse(chance(50) ? buffer.length() : index(520));
        }
    }

    private boolean writesRow(int row) {
        if (row < 0 || row >= m.rows) {
            return same("writeRow " + row, IOOBE, () -> floor.writeRow(row));
        }
        return writes("writeRow " + row, m.row(row), () -> floor.writeRow(row));
    }

    private boolean writes(String call, String want, Check.Call onFloor) {
        output = want;
        if (!same(call, "" + want.length(), onFloor)) {
            return false;
        }
        for (int i = 0; i < want.length() && calls < MAX_CALLS; i++) {
            int at = i;
            if (!same("outputByte " + i, "" + (int) want.charAt(i), () -> floor.outputByte(at))) {
                return false;
            }
        }
        return true;
    }

    // ---- what the model has to try out

    private int litTiles() {
        int lit = 0;
        for (int tile = 0; tile < m.tiles(); tile++) {
            lit += m.lit(tile) ? 1 : 0;
        }
        return lit;
    }

    private int untilLit(int tile) {
        Model future = m.copy();
        for (int i = 0; i <= 500; i++) {
            if (future.lit(tile)) {
                return i;
            }
            future.go(1);
        }
        return -1;
    }

    private int untilFullMoon() {
        Model future = m.copy();
        while (future.bright() != 15) {
            future.night++;
        }
        return future.night - m.night;
    }

    private int untilStep(int tile) {
        Model future = m.copy();
        for (int i = 1; i <= 500; i++) {
            future.go(1);
            if (!future.wear.getOrDefault(tile, 0).equals(m.wear.getOrDefault(tile, 0))) {
                return i;
            }
        }
        return -1;
    }

    private int untilFall() {
        Model future = m.copy();
        for (int i = 1; i <= 500; i++) {
            future.go(1);
            if (future.falls != m.falls) {
                return i;
            }
        }
        return -1;
    }

    private int atPace(int pace, int minutes) {
        Model future = m.copy();
        future.pace = pace;
        return future.after(minutes).total;
    }

    private int bestPace(int minutes) {
        int best = 5;
        for (int pace = 4; pace >= 1; pace--) {
            best = atPace(pace, minutes) >= atPace(best, minutes) ? pace : best;
        }
        return best;
    }

    private int bestCurtain(int minutes) {
        int best = -1;
        int most = 0;
        for (int column = m.columns - 1; column >= 0; column--) {
            if (m.closed.contains(column)) {
                Model future = m.copy();
                future.closed.remove(column);
                future.go(minutes);
                if (best < 0 || future.total >= most) {
                    best = column;
                    most = future.total;
                }
            }
        }
        return best;
    }
}
