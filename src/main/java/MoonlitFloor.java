import java.util.Arrays;

/** A discrete-time simulator of a walker who paces back and forth on the moonlit row of a tiled floor. */
public final class MoonlitFloor {
    /** The value for "none". */
    public static final int NONE = -1;
    /** Error code: a token is malformed or not allowed. */
    public static final int SYNTAX_ERROR = 1;
    /** Error code: a number is out of range. */
    public static final int RANGE_ERROR = 2;
    /** Error code: an item conflicts with an earlier one. */
    public static final int CONFLICT_ERROR = 3;
    /** Error code: there are too many items. */
    public static final int LIMIT_ERROR = 4;

    private static final int MAX_ROWS = 8;
    private static final int MAX_COLUMNS = 10;
    private static final int MAX_TILES = 80;
    private static final int MAX_BYTES = 500;
    private static final int BYTES_PER_APPEND = 20;
    private static final int MAX_CLOUDS = 4;
    private static final int MAX_RUGS = 6;
    private static final int MAX_MOVES = 30;
    private static final int MAX_PACE = 5;
    private static final int MAX_RECORDS = 10;
    private static final int MAX_MINUTES = 300;
    private static final int MAX_EVENT_MINUTES = 2000;
    private static final int MAX_NESTING = 3;
    private static final int MAX_UNDO = 8;
    private static final int SLOTS = 2;
    private static final int FORESIGHT = 500;
    private static final int NIGHTS_PER_MOON = 30;
    private static final int FULL_MOON = 15;

    /** Far more entries than 500 bytes can hold, all repetitions counted. */
    private static final int ENTRY_BOUND = 1000000;

    private static final int MOVE_STAY = 0;
    private static final int MOVE_UP = 1;
    private static final int MOVE_DOWN = 2;
    private static final int MOVE_LEFT = 3;
    private static final int MOVE_RIGHT = 4;

    private final int[] buffer = new int[MAX_BYTES];
    private final StringBuilder output = new StringBuilder();
    private final World world = new World();
    /** Where setups are tried and the future is foretold, so that the world itself stays as it is. */
    private final World draft = new World();
    private final SetupReader reader = new SetupReader(draft);
    private final History history = new History();
    private int filled;
    private boolean loaded;

    /** Creates a simulator without a setup and with an empty input buffer. */
    public MoonlitFloor() {
        filled = 0;
        loaded = false;
    }

    // ---- input buffer and setup

    /** Appends the four bytes of each argument, most significant first; NONE if they don't fit. */
    public int append(int a, int b, int c, int d, int e) {
        if (filled + BYTES_PER_APPEND > MAX_BYTES) {
            return NONE;
        }
        appendWord(a);
        appendWord(b);
        appendWord(c);
        appendWord(d);
        appendWord(e);
        return filled;
    }

    private void appendWord(int word) {
        for (int shift = 24; shift >= 0; shift -= 8) {
            put(buffer, filled, (word >>> shift) & 255);
            filled++;
        }
    }

    /** Replaces the simulation by the setup in the first bytes of the buffer; returns the number of tiles. */
    public int parseSetup(int length) throws IndexOutOfBoundsException, IllegalArgumentException {
        if (length < 0 || length > filled) {
            throw new IndexOutOfBoundsException("the buffer does not hold so many bytes");
        }
        filled = 0;
        if (!reader.read(buffer, length)) {
            throw new IllegalArgumentException("the setup is invalid");
        }
        world.copyFrom(draft);
        history.forgetAll();
        loaded = true;
        return world.tileCount();
    }

    /** Returns the error code of the latest parse; 0 if it succeeded or there was none. */
    public int parseErrorCode() {
        return reader.errorCode;
    }

    /** Returns the position of the error of the latest parse; NONE if there is no error. */
    public int parseErrorPosition() {
        return reader.errorPosition;
    }

    /** Returns the number of bytes in the input buffer. */
    public int bufferLength() {
        return filled;
    }

    // ---- floor and moonlight

    /** Returns the number of rows of the floor. */
    public int rows() throws IllegalStateException {
        requireSetup();
        return world.plan.rows;
    }

    /** Returns the number of columns of the floor. */
    public int columns() throws IllegalStateException {
        requireSetup();
        return world.plan.columns;
    }

    /** Returns the number of minutes for which the moon shines on one row. */
    public int minutesPerRow() throws IllegalStateException {
        requireSetup();
        return world.plan.minutesPerRow;
    }

    /** Returns the number of the current night. */
    public int night() throws IllegalStateException {
        requireSetup();
        return world.night;
    }

    /** Returns the minute of the current night. */
    public int minute() throws IllegalStateException {
        requireSetup();
        return world.minute;
    }

    /** Returns the brightness of the moon in the current night. */
    public int brightness() throws IllegalStateException {
        requireSetup();
        return world.moonlight();
    }

    /** Returns the row on which the moon would shine now if it was bright enough. */
    public int moonRow() throws IllegalStateException {
        requireSetup();
        return world.rowInMoonlight();
    }

    /** Tells whether the moon shines now. */
    public boolean moonShines() throws IllegalStateException {
        requireSetup();
        return world.isMoonOut();
    }

    /** Tells whether a tile is lit now. */
    public boolean isLit(int tile) throws IllegalStateException, IndexOutOfBoundsException {
        requireSetup();
        requireTile(tile);
        return world.isTileLit(tile);
    }

    /** Tells whether the curtain of a column is closed. */
    public boolean isCurtainClosed(int column) throws IllegalStateException, IndexOutOfBoundsException {
        requireSetup();
        requireColumn(column);
        return at(world.closed, column) > 0;
    }

    /** Returns the period of the draught of a column; 0 if it has none. */
    public int draughtPeriod(int column) throws IllegalStateException, IndexOutOfBoundsException {
        requireSetup();
        requireColumn(column);
        return at(world.plan.draughts, column);
    }

    /** Predicts the minutes until a tile is lit; NONE if that takes more than 500. */
    public int minutesUntilLit(int tile) throws IllegalStateException, IndexOutOfBoundsException {
        requireSetup();
        requireTile(tile);
        draft.copyFrom(world);
        for (int passed = 0; passed <= FORESIGHT; passed++) {
            if (draft.isTileLit(tile)) {
                return passed;
            }
            draft.passMinute();
        }
        return NONE;
    }

    /** Returns the number of nights until the brightness is 15. */
    public int nightsUntilFullMoon() throws IllegalStateException {
        requireSetup();
        int age = world.night % NIGHTS_PER_MOON;
        return (FULL_MOON - age + NIGHTS_PER_MOON) % NIGHTS_PER_MOON;
    }

    // ---- walker

    /** Returns the pace that is set for the walker. */
    public int pace() throws IllegalStateException {
        requireSetup();
        return world.pace;
    }

    /** Returns the number of steps that the walker tries per minute now. */
    public int stepsPerMinute() throws IllegalStateException {
        requireSetup();
        return world.triedSteps();
    }

    /** Returns the tile on which the walker stands; NONE if the walker is off the floor. */
    public int walkerTile() throws IllegalStateException {
        requireSetup();
        return world.walker.tile;
    }

    /** Tells whether the walker faces right. */
    public boolean facesRight() throws IllegalStateException {
        requireSetup();
        return world.walker.right;
    }

    /** Returns the number of minutes for which the walker still rests. */
    public int restRemaining() throws IllegalStateException {
        requireSetup();
        return world.walker.rest;
    }

    /** Returns the number of steps that count for the next pause. */
    public int stepsSincePause() throws IllegalStateException {
        requireSetup();
        return world.walker.sincePause;
    }

    /** Returns the number of steps since the setup. */
    public int totalSteps() throws IllegalStateException {
        requireSetup();
        return world.walker.steps;
    }

    /** Returns the number of steps of the current night. */
    public int stepsTonight() throws IllegalStateException {
        requireSetup();
        return world.walker.tonight;
    }

    /** Returns the number of turns that the walker made because it could not go on. */
    public int turnCount() throws IllegalStateException {
        requireSetup();
        return world.walker.turns;
    }

    /** Returns the number of falls of the walker since the setup. */
    public int fallCount() throws IllegalStateException {
        requireSetup();
        return world.walker.falls;
    }

    /** Tells by its number why the next step would not lead to another tile; 0 if it would. */
    public int blockReason() throws IllegalStateException {
        requireSetup();
        return world.obstacle();
    }

    /** Returns the number of steps that ended on a tile since the setup. */
    public int wear(int tile) throws IllegalStateException, IndexOutOfBoundsException {
        requireSetup();
        requireTile(tile);
        return at(world.wear, tile);
    }

    // ---- cat, bowls and spills

    /** Returns the tile on which the cat is; NONE if there is no cat. */
    public int catTile() throws IllegalStateException {
        requireSetup();
        return world.catTile;
    }

    /** Tells whether there is a rug on a tile. */
    public boolean hasRug(int tile) throws IllegalStateException, IndexOutOfBoundsException {
        requireSetup();
        requireTile(tile);
        return at(world.rugs, tile) > 0;
    }

    /** Returns the number of times that a rug slid to another tile since the setup. */
    public int slideCount() throws IllegalStateException {
        requireSetup();
        return world.slides;
    }

    /** Tells whether there is a bowl on a tile. */
    public boolean hasBowl(int tile) throws IllegalStateException, IndexOutOfBoundsException {
        requireSetup();
        requireTile(tile);
        return at(world.bowls, tile) > 0;
    }

    /** Returns the number of minutes until the spill on a tile has dried; 0 if there is none. */
    public int spillTime(int tile) throws IllegalStateException, IndexOutOfBoundsException {
        requireSetup();
        requireTile(tile);
        return at(world.spills, tile);
    }

    /** Returns the number of tiles with a spill. */
    public int spillCount() throws IllegalStateException {
        requireSetup();
        return countMarked(world.spills);
    }

    // ---- records

    /** Returns the number of records. */
    public int recordCount() throws IllegalStateException {
        requireSetup();
        return world.records.count;
    }

    /** Returns the night of a record. */
    public int recordNight(int rank) throws IllegalStateException, IndexOutOfBoundsException {
        requireSetup();
        requireRecord(rank);
        return at(world.records.nights, rank);
    }

    /** Returns the number of steps of a record. */
    public int recordSteps(int rank) throws IllegalStateException, IndexOutOfBoundsException {
        requireSetup();
        requireRecord(rank);
        return at(world.records.steps, rank);
    }

    /** Returns the rank that a night with a number of steps would get now; NONE if it would not be kept. */
    public int rankOf(int steps) throws IllegalStateException, IllegalArgumentException {
        requireSetup();
        if (steps < 1) {
            throw new IllegalArgumentException("a record has 1 step or more");
        }
        int rank = world.records.rankFor(steps);
        return rank < MAX_RECORDS ? rank : NONE;
    }

    /** Compares the counts of steps with one another; 0 if they agree. */
    public int imbalance() throws IllegalStateException {
        requireSetup();
        int difference = sum(world.wear) - world.walker.steps;
        int excess = world.walker.tonight > world.walker.steps ? 1 : 0;
        return (difference < 0 ? -difference : difference) + excess;
    }

    /** Returns the average wear of the tiles. */
    public double averageWear() throws IllegalStateException {
        requireSetup();
        int tiles = world.tileCount();
        return tiles > 0 ? (double) sum(world.wear) / (double) tiles : 0.0;
    }

    /** Returns the share of the tiles that are lit now. */
    public float litShare() throws IllegalStateException {
        requireSetup();
        int tiles = world.tileCount();
        int lit = 0;
        for (int tile = 0; tile < tiles; tile++) {
            if (world.isTileLit(tile)) {
                lit++;
            }
        }
        return tiles > 0 ? (float) lit / (float) tiles : 0.0f;
    }

    // ---- predictions; these methods change nothing

    /** Predicts totalSteps() after some minutes. */
    public int stepsAfter(int minutes) throws IllegalStateException, IllegalArgumentException {
        requireSetup();
        requireForetellable(minutes);
        return foretellSteps(world.pace, minutes);
    }

    /** Predicts walkerTile() after some minutes. */
    public int walkerTileAfter(int minutes) throws IllegalStateException, IllegalArgumentException {
        requireSetup();
        requireForetellable(minutes);
        draft.copyFrom(world);
        draft.passMinutes(minutes);
        return draft.walker.tile;
    }

    /** Predicts spillTime() of a tile after some minutes. */
    public int spillTimeAfter(int tile, int minutes)
            throws IllegalStateException, IndexOutOfBoundsException, IllegalArgumentException {
        requireSetup();
        requireTile(tile);
        requireForetellable(minutes);
        draft.copyFrom(world);
        draft.passMinutes(minutes);
        return at(draft.spills, tile);
    }

    /** Predicts the minutes until the wear of a tile becomes greater; NONE if that takes more than 500. */
    public int minutesUntilStep(int tile) throws IllegalStateException, IndexOutOfBoundsException {
        requireSetup();
        requireTile(tile);
        draft.copyFrom(world);
        for (int passed = 1; passed <= FORESIGHT; passed++) {
            draft.passMinute();
            if (at(draft.wear, tile) > at(world.wear, tile)) {
                return passed;
            }
        }
        return NONE;
    }

    /** Predicts the minutes until the walker falls; NONE if that takes more than 500. */
    public int minutesUntilFall() throws IllegalStateException {
        requireSetup();
        draft.copyFrom(world);
        for (int passed = 1; passed <= FORESIGHT; passed++) {
            draft.passMinute();
            if (draft.walker.falls > world.walker.falls) {
                return passed;
            }
        }
        return NONE;
    }

    /** Predicts totalSteps() after some minutes if the pace was set to another value now. */
    public int stepsAtPace(int pace, int minutes) throws IllegalStateException, IllegalArgumentException {
        requireSetup();
        requirePace(pace);
        requireForetellable(minutes);
        return foretellSteps(pace, minutes);
    }

    /** Returns the pace for which stepsAtPace() is greatest; of several the smallest one. */
    public int bestPace(int minutes) throws IllegalStateException, IllegalArgumentException {
        requireSetup();
        requireForetellable(minutes);
        int best = NONE;
        int most = NONE;
        for (int pace = 1; pace <= MAX_PACE; pace++) {
            int steps = foretellSteps(pace, minutes);
            if (steps > most) {
                most = steps;
                best = pace;
            }
        }
        return best;
    }

    /** Returns the closed curtain whose opening now would lead to the most steps; NONE if none is closed. */
    public int bestCurtain(int minutes) throws IllegalStateException, IllegalArgumentException {
        requireSetup();
        requireForetellable(minutes);
        int best = NONE;
        int most = NONE;
        for (int column = 0; column < world.plan.columns; column++) {
            if (at(world.closed, column) == 0) {
                continue;
            }
            draft.copyFrom(world);
            put(draft.closed, column, 0);
            draft.passMinutes(minutes);
            if (draft.walker.steps > most) {
                most = draft.walker.steps;
                best = column;
            }
        }
        return best;
    }

    private int foretellSteps(int pace, int minutes) {
        draft.copyFrom(world);
        draft.pace = pace;
        draft.passMinutes(minutes);
        return draft.walker.steps;
    }

    // ---- text output

    /** Writes a row of the floor to the output, one character per column; returns the number of bytes. */
    public int writeRow(int row) throws IllegalStateException, IndexOutOfBoundsException {
        requireSetup();
        if (row < 0 || row >= world.plan.rows) {
            throw new IndexOutOfBoundsException("there is no such row");
        }
        output.setLength(0);
        for (int column = 0; column < world.plan.columns; column++) {
            output.append(world.picture(row * world.plan.columns + column));
        }
        return output.length();
    }

    /** Writes all records to the output; returns the number of bytes. */
    public int writeRecords() throws IllegalStateException {
        requireSetup();
        Records records = world.records;
        output.setLength(0);
        if (records.count == 0) {
            output.append('-');
        }
        for (int rank = 0; rank < records.count; rank++) {
            if (rank > 0) {
                output.append(' ');
            }
            output.append(at(records.nights, rank));
            output.append(':');
            output.append(at(records.steps, rank));
        }
        return output.length();
    }

    /** Returns a byte of the output. */
    public int outputByte(int index) throws IndexOutOfBoundsException {
        if (index < 0 || index >= output.length()) {
            throw new IndexOutOfBoundsException("the output has no such byte");
        }
        return output.charAt(index);
    }

    // ---- changes; each one can be undone

    /** Simulates some minutes; returns the number of steps that the walker made in them. */
    public int advance(int minutes) throws IllegalStateException, IllegalArgumentException {
        requireSetup();
        if (minutes < 1 || minutes > MAX_MINUTES) {
            throw new IllegalArgumentException("minutes must be 1 to 300");
        }
        history.keep(world);
        int before = world.walker.steps;
        world.passMinutes(minutes);
        return world.walker.steps - before;
    }

    /** Sets the pace of the walker; returns the previous one. */
    public int setPace(int pace) throws IllegalStateException, IllegalArgumentException {
        requireSetup();
        requirePace(pace);
        history.keep(world);
        int before = world.pace;
        world.pace = pace;
        return before;
    }

    /** Opens or closes the curtain of a column; returns true if it was closed before. */
    public boolean setCurtain(int column, boolean closed) throws IllegalStateException, IndexOutOfBoundsException {
        requireSetup();
        requireColumn(column);
        history.keep(world);
        boolean before = at(world.closed, column) > 0;
        put(world.closed, column, closed ? 1 : 0);
        return before;
    }

    /** Places a bowl on a tile; returns the number of bowls afterwards. */
    public int placeBowl(int tile)
            throws IllegalStateException, IndexOutOfBoundsException, IllegalArgumentException {
        requireSetup();
        requireTile(tile);
        if (!world.hasRoomForBowl(tile)) {
            throw new IllegalArgumentException("there is a bowl or a spill on the tile");
        }
        history.keep(world);
        put(world.bowls, tile, 1);
        return countMarked(world.bowls);
    }

    /** Removes the spill from a tile; returns the number of minutes that it still needed to dry. */
    public int mop(int tile) throws IllegalStateException, IndexOutOfBoundsException, IllegalArgumentException {
        requireSetup();
        requireTile(tile);
        int left = at(world.spills, tile);
        if (left == 0) {
            throw new IllegalArgumentException("there is no spill on the tile");
        }
        history.keep(world);
        put(world.spills, tile, 0);
        return left;
    }

    /** Lets the walker face the other direction; returns true if it faces right afterwards. */
    public boolean turnWalker() throws IllegalStateException {
        requireSetup();
        history.keep(world);
        world.walker.right = !world.walker.right;
        return world.walker.right;
    }

    /** Undoes the latest change that has not been undone; returns how many can still be undone. */
    public int undo() throws IllegalStateException {
        if (!history.takeBack(world)) {
            throw new IllegalStateException("there is nothing to undo");
        }
        return history.count;
    }

    /** Returns the number of changes that can be undone. */
    public int undoCount() {
        return history.count;
    }

    /** Saves the state of the simulation in a slot; returns the number of the current night. */
    public int saveState(int slot) throws IllegalStateException, IndexOutOfBoundsException {
        requireSetup();
        requireSlot(slot);
        history.store(slot, world);
        return world.night;
    }

    /** Restores the state that was saved in a slot; returns its night. */
    public int restoreState(int slot) throws IndexOutOfBoundsException, IllegalStateException {
        requireSlot(slot);
        if (!history.fetch(slot, world)) {
            throw new IllegalStateException("no state is saved in the slot");
        }
        history.forgetChanges();
        return world.night;
    }

    // ---- tests of arguments

    private void requireSetup() {
        if (!loaded) {
            throw new IllegalStateException("no setup has been loaded");
        }
    }

    private void requireTile(int tile) {
        if (tile < 0 || tile >= world.tileCount()) {
            throw new IndexOutOfBoundsException("there is no such tile");
        }
    }

    private void requireColumn(int column) {
        if (column < 0 || column >= world.plan.columns) {
            throw new IndexOutOfBoundsException("there is no such column");
        }
    }

    private void requireRecord(int rank) {
        if (rank < 0 || rank >= world.records.count) {
            throw new IndexOutOfBoundsException("there is no such record");
        }
    }

    private void requireSlot(int slot) {
        if (slot < 0 || slot >= SLOTS) {
            throw new IndexOutOfBoundsException("there is no such slot");
        }
    }

    private void requireForetellable(int minutes) {
        if (minutes < 0 || minutes > MAX_MINUTES) {
            throw new IllegalArgumentException("minutes must be 0 to 300");
        }
    }

    private void requirePace(int pace) {
        if (pace < 1 || pace > MAX_PACE) {
            throw new IllegalArgumentException("the pace must be 1 to 5");
        }
    }

    // ---- rows of numbers; every index is looked at here

    private static int at(int[] cells, int index) {
        return index >= 0 && index < cells.length ? cells[index] : 0;
    }

    private static void put(int[] cells, int index, int value) {
        if (index >= 0 && index < cells.length) {
            cells[index] = value;
        }
    }

    private static void copy(int[] from, int[] to) {
        System.arraycopy(from, 0, to, 0, Math.min(from.length, to.length));
    }

    private static int sum(int[] cells) {
        int sum = 0;
        for (int cell : cells) {
            sum += cell;
        }
        return sum;
    }

    private static int countMarked(int[] cells) {
        int count = 0;
        for (int cell : cells) {
            if (cell > 0) {
                count++;
            }
        }
        return count;
    }

    /** What the settings fix for the whole simulation. */
    private static final class Plan {
        final int[] draughts = new int[MAX_COLUMNS];
        final int[] cloudFirsts = new int[MAX_CLOUDS];
        final int[] cloudLasts = new int[MAX_CLOUDS];
        final int[] route = new int[MAX_MOVES];
        int rows;
        int columns;
        int minutesPerRow;
        int dryingTime;
        int restTime;
        int stamina;
        int noise;
        int clouds;
        int moves;

        void reset() {
            Arrays.fill(draughts, 0);
            rows = 2;
            columns = 2;
            minutesPerRow = 5;
            dryingTime = 10;
            restTime = 0;
            stamina = 0;
            noise = 0;
            clouds = 0;
            moves = 0;
        }

        void copyFrom(Plan other) {
            copy(other.draughts, draughts);
            copy(other.cloudFirsts, cloudFirsts);
            copy(other.cloudLasts, cloudLasts);
            copy(other.route, route);
            rows = other.rows;
            columns = other.columns;
            minutesPerRow = other.minutesPerRow;
            dryingTime = other.dryingTime;
            restTime = other.restTime;
            stamina = other.stamina;
            noise = other.noise;
            clouds = other.clouds;
            moves = other.moves;
        }

        boolean isCloudy(int minute) {
            for (int cloud = 0; cloud < clouds && cloud < MAX_CLOUDS; cloud++) {
                if (minute >= cloudFirsts[cloud] && minute <= cloudLasts[cloud]) {
                    return true;
                }
            }
            return false;
        }
    }

    /** The walker and the counts of what it did. */
    private static final class Walker {
        int tile;
        int column;
        boolean right;
        int rest;
        int sincePause;
        int steps;
        int tonight;
        int turns;
        int falls;

        void reset() {
            tile = NONE;
            column = 0;
            right = true;
            rest = 0;
            sincePause = 0;
            steps = 0;
            tonight = 0;
            turns = 0;
            falls = 0;
        }

        void copyFrom(Walker other) {
            tile = other.tile;
            column = other.column;
            right = other.right;
            rest = other.rest;
            sincePause = other.sincePause;
            steps = other.steps;
            tonight = other.tonight;
            turns = other.turns;
            falls = other.falls;
        }

        void turnBack() {
            right = !right;
            turns++;
        }

        void countStep() {
            steps++;
            tonight++;
            sincePause++;
        }

        void pause() {
            rest = 1;
            sincePause = 0;
        }

        void fall(int restTime) {
            falls++;
            rest = restTime;
            sincePause = 0;
        }
    }

    /** The nights with the most steps, the best first. */
    private static final class Records {
        final int[] nights = new int[MAX_RECORDS];
        final int[] steps = new int[MAX_RECORDS];
        int count;

        void reset() {
            count = 0;
        }

        void copyFrom(Records other) {
            copy(other.nights, nights);
            copy(other.steps, steps);
            count = other.count;
        }

        /** Every record is of an earlier night, so that equal ones stay ahead. */
        int rankFor(int newSteps) {
            int rank = 0;
            while (rank < count && rank < MAX_RECORDS && steps[rank] >= newSteps) {
                rank++;
            }
            return rank;
        }

        void add(int newNight, int newSteps) {
            int rank = rankFor(newSteps);
            if (rank >= MAX_RECORDS) {
                return;
            }
            count = Math.min(count + 1, MAX_RECORDS);
            for (int place = count - 1; place > rank; place--) {
                put(nights, place, at(nights, place - 1));
                put(steps, place, at(steps, place - 1));
            }
            put(nights, rank, newNight);
            put(steps, rank, newSteps);
        }
    }

    /** The whole state of a simulation, and the rules by which it goes on. */
    private static final class World {
        final Plan plan = new Plan();
        final Walker walker = new Walker();
        final Records records = new Records();
        final int[] closed = new int[MAX_COLUMNS];
        final int[] wear = new int[MAX_TILES];
        final int[] spills = new int[MAX_TILES];
        final int[] bowls = new int[MAX_TILES];
        final int[] rugs = new int[MAX_TILES];
        int pace;
        int night;
        int minute;
        int slides;
        int catTile;
        int nextMove;

        void reset() {
            plan.reset();
            walker.reset();
            records.reset();
            Arrays.fill(closed, 0);
            Arrays.fill(wear, 0);
            Arrays.fill(spills, 0);
            Arrays.fill(bowls, 0);
            Arrays.fill(rugs, 0);
            pace = 1;
            night = FULL_MOON;
            minute = 0;
            slides = 0;
            catTile = NONE;
            nextMove = 0;
        }

        void copyFrom(World other) {
            plan.copyFrom(other.plan);
            walker.copyFrom(other.walker);
            records.copyFrom(other.records);
            copy(other.closed, closed);
            copy(other.wear, wear);
            copy(other.spills, spills);
            copy(other.bowls, bowls);
            copy(other.rugs, rugs);
            pace = other.pace;
            night = other.night;
            minute = other.minute;
            slides = other.slides;
            catTile = other.catTile;
            nextMove = other.nextMove;
        }

        int tileCount() {
            return plan.rows * plan.columns;
        }

        int nightLength() {
            return plan.rows * plan.minutesPerRow;
        }

        int rowOf(int tile) {
            return plan.columns > 0 ? tile / plan.columns : 0;
        }

        int columnOf(int tile) {
            return plan.columns > 0 ? tile % plan.columns : 0;
        }

        /** The tile to which a move leads; NONE if it would leave the floor. */
        int neighbor(int tile, int move) {
            int width = plan.columns;
            int column = width > 0 ? tile % width : 0;
            switch (move) {
                case MOVE_UP:
                    return tile >= width ? tile - width : NONE;
                case MOVE_DOWN:
                    return tile + width < plan.rows * width ? tile + width : NONE;
                case MOVE_LEFT:
                    return column > 0 ? tile - 1 : NONE;
                case MOVE_RIGHT:
                    return column + 1 < width ? tile + 1 : NONE;
                default:
                    return tile;
            }
        }

        int moonlight() {
            int age = night % NIGHTS_PER_MOON;
            return age <= FULL_MOON ? age : NIGHTS_PER_MOON - age;
        }

        boolean isMoonOut() {
            return moonlight() > 0 && !plan.isCloudy(minute);
        }

        int rowInMoonlight() {
            return plan.minutesPerRow > 0 ? minute / plan.minutesPerRow : 0;
        }

        boolean isTileLit(int tile) {
            return isMoonOut() && liesInMoonlight(tile);
        }

        /** Whether a tile is lit, given that the moon shines. */
        private boolean liesInMoonlight(int tile) {
            return rowOf(tile) == rowInMoonlight() && at(closed, columnOf(tile)) == 0;
        }

        boolean hasRoomForBowl(int tile) {
            return at(bowls, tile) == 0 && at(spills, tile) == 0;
        }

        int triedSteps() {
            return isMoonOut() ? Math.min(pace, 1 + moonlight() / 4) : 0;
        }

        void passMinutes(int minutes) {
            for (int passed = 0; passed < minutes; passed++) {
                passMinute();
            }
        }

        void passMinute() {
            if (moveCat() && at(bowls, catTile) > 0) {
                spillBowl();
            }
            if (walker.rest > 0) {
                walker.rest--;
            } else if (walker.tile != NONE) {
                walk(triedSteps());
            }
            drySpills();
            minute++;
            if (minute >= nightLength()) {
                endNight();
            }
            stirCurtains();
            relocate();
        }

        /** Whether the cat has a route; one without moves never spills a bowl. */
        private boolean moveCat() {
            if (catTile == NONE || plan.moves <= 0) {
                return false;
            }
            int target = neighbor(catTile, at(plan.route, nextMove));
            if (target != NONE && at(spills, target) == 0) {
                catTile = target;
            }
            nextMove = (nextMove + 1) % plan.moves;
            return true;
        }

        private void spillBowl() {
            put(bowls, catTile, 0);
            put(spills, catTile, plan.dryingTime);
            if (walker.tile == catTile) {
                walker.fall(plan.restTime);
            } else if (walker.tile != NONE && distance(walker.tile, catTile) <= plan.noise) {
                startle();
            }
        }

        private void startle() {
            int catColumn = columnOf(catTile);
            if (catColumn != walker.column) {
                walker.right = catColumn < walker.column;
            }
        }

        private int distance(int tile, int other) {
            return Math.abs(rowOf(tile) - rowOf(other)) + Math.abs(columnOf(tile) - columnOf(other));
        }

        private void walk(int tries) {
            for (int tried = 0; tried < tries; tried++) {
                int way = walker.right ? MOVE_RIGHT : MOVE_LEFT;
                int next = neighbor(walker.tile, way);
                if (!canEnter(next)) {
                    walker.turnBack();
                    continue;
                }
                slideRug(next, way);
                enter(next);
                if (plan.stamina > 0 && walker.sincePause >= plan.stamina) {
                    walker.pause();
                    break;
                }
            }
        }

        private boolean canEnter(int tile) {
            return tile != NONE && at(closed, columnOf(tile)) == 0 && at(spills, tile) == 0;
        }

        private void slideRug(int tile, int way) {
            if (at(rugs, tile) == 0) {
                return;
            }
            int target = neighbor(tile, way);
            if (target != NONE && at(rugs, target) == 0 && hasRoomForBowl(target)) {
                put(rugs, tile, 0);
                put(rugs, target, 1);
                slides++;
            }
        }

        private void enter(int tile) {
            walker.tile = tile;
            walker.column = columnOf(tile);
            walker.countStep();
            put(wear, tile, at(wear, tile) + 1);
        }

        private void drySpills() {
            int tiles = tileCount();
            for (int tile = 0; tile < tiles; tile++) {
                int left = at(spills, tile);
                if (left > 0) {
                    int dried = at(rugs, tile) > 0 ? 2 : 1;
                    put(spills, tile, Math.max(left - dried, 0));
                }
            }
        }

        private void endNight() {
            if (walker.tonight > 0) {
                records.add(night, walker.tonight);
            }
            night++;
            minute = 0;
            walker.tonight = 0;
        }

        private void stirCurtains() {
            for (int column = 0; column < plan.columns; column++) {
                int period = at(plan.draughts, column);
                if (period > 0 && minute % period == 0) {
                    put(closed, column, 1 - at(closed, column));
                }
            }
        }

        /** Brings the walker into the moonlight if the moon shines and the walker is not in it. */
        void relocate() {
            if (!isMoonOut() || walker.tile != NONE && liesInMoonlight(walker.tile)) {
                return;
            }
            walker.tile = NONE;
            for (int away = 0; away < plan.columns; away++) {
                if (settle(walker.column - away) || settle(walker.column + away)) {
                    return;
                }
            }
        }

        private boolean settle(int column) {
            int tile = rowInMoonlight() * plan.columns + column;
            if (column < 0 || column >= plan.columns || at(closed, column) > 0 || at(spills, tile) > 0) {
                return false;
            }
            walker.tile = tile;
            walker.column = column;
            return true;
        }

        /** The number of the first reason why the next step leads nowhere; 0 if it leads on. */
        int obstacle() {
            if (walker.tile == NONE) {
                return 1;
            }
            if (!isMoonOut()) {
                return 2;
            }
            if (walker.rest > 0) {
                return 3;
            }
            int next = neighbor(walker.tile, walker.right ? MOVE_RIGHT : MOVE_LEFT);
            if (next == NONE) {
                return 4;
            }
            if (at(closed, columnOf(next)) > 0) {
                return 5;
            }
            return at(spills, next) > 0 ? 6 : 0;
        }

        char picture(int tile) {
            if (walker.tile == tile) {
                return 'W';
            }
            if (catTile == tile) {
                return 'C';
            }
            if (at(bowls, tile) > 0) {
                return 'o';
            }
            if (at(spills, tile) > 0) {
                return '~';
            }
            if (at(rugs, tile) > 0) {
                return 'r';
            }
            return isTileLit(tile) ? '*' : '.';
        }
    }

    /** The states before the latest changes, and the saved ones. */
    private static final class History {
        private final World[] past = new World[MAX_UNDO];
        private final World[] saved = new World[SLOTS];
        private final int[] inUse = new int[SLOTS];
        private int next;
        int count;

        History() {
            for (int place = 0; place < MAX_UNDO; place++) {
                past[place] = new World();
            }
            for (int slot = 0; slot < SLOTS; slot++) {
                saved[slot] = new World();
            }
        }

        void keep(World world) {
            World room = worldAt(past, next);
            if (room == null) {
                return;
            }
            room.copyFrom(world);
            next = (next + 1) % MAX_UNDO;
            count = Math.min(count + 1, MAX_UNDO);
        }

        boolean takeBack(World world) {
            int latest = (next + MAX_UNDO - 1) % MAX_UNDO;
            World before = worldAt(past, latest);
            if (count <= 0 || before == null) {
                return false;
            }
            world.copyFrom(before);
            next = latest;
            count--;
            return true;
        }

        void store(int slot, World world) {
            World room = worldAt(saved, slot);
            if (room == null) {
                return;
            }
            room.copyFrom(world);
            put(inUse, slot, 1);
        }

        boolean fetch(int slot, World world) {
            World kept = worldAt(saved, slot);
            if (kept == null || at(inUse, slot) == 0) {
                return false;
            }
            world.copyFrom(kept);
            return true;
        }

        void forgetChanges() {
            count = 0;
        }

        void forgetAll() {
            forgetChanges();
            Arrays.fill(inUse, 0);
        }

        private static World worldAt(World[] worlds, int index) {
            return index >= 0 && index < worlds.length ? worlds[index] : null;
        }
    }

    /** What a token can be. */
    private enum Sign {
        FLOOR("floor", false, false),
        LIGHT("light", true, false),
        PACE("pace", true, true),
        DRYING("drying", true, false),
        REST("rest", true, false),
        STAMINA("stamina", true, false),
        NOISE("noise", true, false),
        NIGHT("night", true, false),
        WALKER("walker", true, false),
        CAT("cat", true, false),
        CURTAIN("curtain", true, false),
        DRAUGHT("draught", true, false),
        CLOUD("cloud", true, false),
        RUG("rug", true, false),
        BOWL("bowl", false, true),
        SPILL("spill", false, true),
        MOP("mop", false, true),
        TURN("turn", false, true),
        OPEN("open", false, true),
        CLOSE("close", false, true),
        CARRY("carry", false, true),
        ADVANCE("advance", false, true),
        SLEEP("sleep", false, true),
        REPEAT("repeat", false, true),
        ROW("row", false, false),
        COLUMN("column", false, false),
        STAY("stay", false, false),
        UP("up", false, false),
        DOWN("down", false, false),
        LEFT("left", false, false),
        RIGHT("right", false, false),
        SEMICOLON(";", false, false),
        OPENING("(", false, false),
        CLOSING(")", false, false),
        NUMBER("", false, false),
        UNKNOWN("", false, false),
        END("", false, false);

        final String text;
        final boolean setting;
        final boolean event;

        Sign(String text, boolean setting, boolean event) {
            this.text = text;
            this.setting = setting;
            this.event = event;
        }
    }

    /** The tokens of a text, and the one at hand. */
    private static final class Tokens {
        private static final Sign[] SIGNS = Sign.values();
        private static final int MAX_DIGITS = 3;

        private final Sign[] signs = new Sign[MAX_BYTES + 1];
        private final int[] starts = new int[MAX_BYTES + 1];
        private final int[] numbers = new int[MAX_BYTES + 1];
        private int count;
        private int place;

        void scan(int[] bytes, int length) {
            count = 0;
            place = 0;
            int end = 0;
            for (int start = 0; start < length; start++) {
                if (start >= end && at(bytes, start) != ' ') {
                    end = tokenEnd(bytes, start, length);
                    add(signOf(bytes, start, end), start, numberOf(bytes, start, end));
                }
            }
            add(Sign.END, length, 0);
        }

        /** A word or a number goes on as long as it can; all else is one byte. */
        private static int tokenEnd(int[] bytes, int start, int length) {
            int first = at(bytes, start);
            int end = start + 1;
            while (end < length && (isLetter(first) && isLetter(at(bytes, end))
                    || isDigit(first) && isDigit(at(bytes, end)))) {
                end++;
            }
            return end;
        }

        private static Sign signOf(int[] bytes, int start, int end) {
            if (isDigit(at(bytes, start))) {
                return end - start <= MAX_DIGITS ? Sign.NUMBER : Sign.UNKNOWN;
            }
            for (Sign sign : SIGNS) {
                if (sign.text.length() == end - start && spells(sign.text, bytes, start)) {
                    return sign;
                }
            }
            return Sign.UNKNOWN;
        }

        private static boolean spells(String text, int[] bytes, int start) {
            for (int i = 0; i < text.length(); i++) {
                if (text.charAt(i) != at(bytes, start + i)) {
                    return false;
                }
            }
            return true;
        }

        /** The value of a number; what it answers for other tokens is never asked for. */
        private static int numberOf(int[] bytes, int start, int end) {
            int number = 0;
            for (int i = start; i < end && i < start + MAX_DIGITS; i++) {
                number = number * 10 + at(bytes, i) - '0';
            }
            return number;
        }

        private static boolean isLetter(int b) {
            return b >= 'a' && b <= 'z';
        }

        private static boolean isDigit(int b) {
            return b >= '0' && b <= '9';
        }

        private void add(Sign sign, int start, int number) {
            if (count < signs.length) {
                signs[count] = sign;
                put(starts, count, start);
                put(numbers, count, number);
                count++;
            }
        }

        Sign sign() {
            Sign sign = place >= 0 && place < count && place < signs.length ? signs[place] : null;
            return sign == null ? Sign.END : sign;
        }

        int start() {
            return place >= 0 && place < starts.length ? starts[place] : 0;
        }

        int number() {
            return at(numbers, place);
        }

        int mark() {
            return place;
        }

        void goBackTo(int mark) {
            place = mark;
        }

        void goOn() {
            if (place + 1 < count) {
                place++;
            }
        }
    }

    /** Reads a setup into a world. After the first error nothing more is read, and the world is of no use. */
    private static final class SetupReader {
        private final Tokens tokens = new Tokens();
        private final World world;
        private final int[] bodies = new int[MAX_NESTING];
        private final int[] passesLeft = new int[MAX_NESTING];
        private int nesting;
        private int simulated;
        private boolean expectsEntry;
        private boolean sawEvent;
        private boolean finished;
        int errorCode;
        int errorPosition;

        SetupReader(World world) {
            this.world = world;
            errorCode = 0;
            errorPosition = NONE;
        }

        /** Returns true if the setup is valid. */
        boolean read(int[] bytes, int length) {
            restart();
            tokens.scan(bytes, length);
            readFloor();
            for (int entry = 0; entry < ENTRY_BOUND && !finished && errorCode == 0; entry++) {
                if (!expectsEntry) {
                    readSeparator();
                } else if (startsEvent()) {
                    world.passMinutes(readEvent());
                } else {
                    readSetting();
                }
            }
            return errorCode == 0;
        }

        private void restart() {
            world.reset();
            nesting = 0;
            simulated = 0;
            expectsEntry = false;
            sawEvent = false;
            finished = false;
            errorCode = 0;
            errorPosition = NONE;
        }

        private void fail(int code) {
            errorCode = code;
            errorPosition = tokens.start();
        }

        /** The number at hand; NONE, and an error, if it is none or out of range. */
        private int number(int least, int greatest) {
            if (tokens.sign() != Sign.NUMBER) {
                fail(SYNTAX_ERROR);
                return NONE;
            }
            int number = tokens.number();
            if (number < least || number > greatest) {
                fail(RANGE_ERROR);
                return NONE;
            }
            return number;
        }

        /** As number(), and goes on to the next token if there is no error. */
        private int takeNumber(int least, int greatest) {
            int number = number(least, greatest);
            if (number != NONE) {
                tokens.goOn();
            }
            return number;
        }

        private void readFloor() {
            if (tokens.sign() != Sign.FLOOR) {
                fail(SYNTAX_ERROR);
                return;
            }
            tokens.goOn();
            int rows = takeNumber(2, MAX_ROWS);
            int columns = rows == NONE ? NONE : takeNumber(2, MAX_COLUMNS);
            if (columns != NONE) {
                world.plan.rows = rows;
                world.plan.columns = columns;
            }
        }

        private void readSeparator() {
            Sign sign = tokens.sign();
            if (sign == Sign.SEMICOLON) {
                tokens.goOn();
                expectsEntry = true;
            } else if (sign == Sign.CLOSING && nesting > 0) {
                closeBracket();
            } else if (sign == Sign.END && nesting == 0) {
                finish();
            } else {
                fail(SYNTAX_ERROR);
            }
        }

        private void closeBracket() {
            int innermost = nesting - 1;
            int left = at(passesLeft, innermost);
            if (left > 0) {
                put(passesLeft, innermost, left - 1);
                tokens.goBackTo(at(bodies, innermost));
                expectsEntry = true;
            } else {
                nesting--;
                tokens.goOn();
            }
        }

        private void finish() {
            finished = true;
            if (!sawEvent) {
                world.relocate();
            }
        }

        /** After the first event there are only events; before it, "pace" is a setting. */
        private boolean startsEvent() {
            Sign sign = tokens.sign();
            return sawEvent || sign.event && !sign.setting;
        }

        private void readSetting() {
            Sign sign = tokens.sign();
            Plan plan = world.plan;
            if (!sign.setting) {
                fail(SYNTAX_ERROR);
                return;
            }
            if (sign == Sign.CLOUD && plan.clouds >= MAX_CLOUDS) {
                fail(LIMIT_ERROR);
                return;
            }
            expectsEntry = false;
            tokens.goOn();
            switch (sign) {
                case LIGHT:
                    plan.minutesPerRow = takeNumber(1, 20);
                    break;
                case PACE:
                    world.pace = takeNumber(1, MAX_PACE);
                    break;
                case DRYING:
                    plan.dryingTime = takeNumber(1, 99);
                    break;
                case REST:
                    plan.restTime = takeNumber(0, 9);
                    break;
                case STAMINA:
                    plan.stamina = takeNumber(0, 99);
                    break;
                case NOISE:
                    plan.noise = takeNumber(0, 20);
                    break;
                case NIGHT:
                    world.night = takeNumber(0, 999);
                    break;
                case WALKER:
                    readWalker();
                    break;
                case CAT:
                    readCat();
                    break;
                case DRAUGHT:
                    readDraught();
                    break;
                case CLOUD:
                    readCloud();
                    break;
                case CURTAIN:
                    readCurtains(1);
                    break;
                default:
                    readTiles(sign);
                    break;
            }
        }

        private void readWalker() {
            int column = takeNumber(0, world.plan.columns - 1);
            if (column == NONE) {
                return;
            }
            Sign way = tokens.sign();
            if (way != Sign.LEFT && way != Sign.RIGHT) {
                fail(SYNTAX_ERROR);
                return;
            }
            tokens.goOn();
            world.walker.column = column;
            world.walker.right = way == Sign.RIGHT;
        }

        private void readCat() {
            int tile = takeNumber(0, world.tileCount() - 1);
            if (tile == NONE) {
                return;
            }
            world.catTile = tile;
            world.plan.moves = 0;
            for (int read = 0; read <= MAX_MOVES; read++) {
                int move = moveOf(tokens.sign());
                if (move == NONE) {
                    return;
                }
                if (read == MAX_MOVES) {
                    fail(LIMIT_ERROR);
                    return;
                }
                put(world.plan.route, read, move);
                world.plan.moves = read + 1;
                tokens.goOn();
            }
        }

        private static int moveOf(Sign sign) {
            switch (sign) {
                case STAY:
                    return MOVE_STAY;
                case UP:
                    return MOVE_UP;
                case DOWN:
                    return MOVE_DOWN;
                case LEFT:
                    return MOVE_LEFT;
                case RIGHT:
                    return MOVE_RIGHT;
                default:
                    return NONE;
            }
        }

        private void readDraught() {
            int column = takeNumber(0, world.plan.columns - 1);
            int period = column == NONE ? NONE : takeNumber(2, 60);
            if (period != NONE) {
                put(world.plan.draughts, column, period);
            }
        }

        private void readCloud() {
            Plan plan = world.plan;
            int first = takeNumber(0, 159);
            int last = first == NONE ? NONE : takeNumber(first, 159);
            if (last != NONE) {
                put(plan.cloudFirsts, plan.clouds, first);
                put(plan.cloudLasts, plan.clouds, last);
                plan.clouds++;
            }
        }

        /** Closes (1) or opens (0) the curtains of one or more columns. */
        private void readCurtains(int closed) {
            for (int read = 0; read < MAX_BYTES; read++) {
                if (read > 0 && tokens.sign() != Sign.NUMBER) {
                    return;
                }
                int column = number(0, world.plan.columns - 1);
                if (column == NONE) {
                    return;
                }
                if (at(world.closed, column) == closed) {
                    fail(CONFLICT_ERROR);
                    return;
                }
                put(world.closed, column, closed);
                tokens.goOn();
            }
        }

        private void readTiles(Sign thing) {
            for (int read = 0; read < MAX_BYTES && errorCode == 0; read++) {
                Sign sign = tokens.sign();
                if (read > 0 && sign != Sign.NUMBER && sign != Sign.ROW && sign != Sign.COLUMN) {
                    return;
                }
                readItem(thing);
            }
        }

        private void readItem(Sign thing) {
            boolean row = tokens.sign() == Sign.ROW;
            boolean column = tokens.sign() == Sign.COLUMN;
            if (row || column) {
                tokens.goOn();
            }
            Plan plan = world.plan;
            int bound = row ? plan.rows : column ? plan.columns : world.tileCount();
            int number = number(0, bound - 1);
            if (number == NONE) {
                return;
            }
            int first = row ? number * plan.columns : number;
            int stride = column ? plan.columns : 1;
            int length = row ? plan.columns : column ? plan.rows : 1;
            int wanted = countWanted(thing, first, stride, length);
            if (wanted == 0 && !row && !column) {
                fail(CONFLICT_ERROR);
            } else if (thing == Sign.RUG && countMarked(world.rugs) + wanted > MAX_RUGS) {
                fail(LIMIT_ERROR);
            } else {
                handleLine(thing, first, stride, length);
                tokens.goOn();
            }
        }

        private int countWanted(Sign thing, int first, int stride, int length) {
            int count = 0;
            for (int i = 0; i < length; i++) {
                if (isWanted(thing, first + i * stride)) {
                    count++;
                }
            }
            return count;
        }

        /** Whether a tile has room for the rug or the bowl, or a spill to mop. */
        private boolean isWanted(Sign thing, int tile) {
            if (tile < 0 || tile >= MAX_TILES) {
                return false;
            }
            if (thing == Sign.RUG) {
                return world.rugs[tile] == 0;
            }
            boolean spilled = world.spills[tile] > 0;
            return thing == Sign.BOWL ? !spilled && world.bowls[tile] == 0 : spilled;
        }

        /** Lays the rugs, places the bowls or mops the spills of some tiles, which lie a stride apart. */
        private void handleLine(Sign thing, int first, int stride, int length) {
            for (int i = 0; i < length; i++) {
                int tile = first + i * stride;
                if (!isWanted(thing, tile)) {
                    continue;
                }
                if (thing == Sign.RUG) {
                    put(world.rugs, tile, 1);
                } else if (thing == Sign.BOWL) {
                    put(world.bowls, tile, 1);
                } else {
                    put(world.spills, tile, 0);
                }
            }
        }

        /** Reads an event and lets it take place; returns the minutes that it still wants to pass. */
        private int readEvent() {
            Sign sign = tokens.sign();
            if (!sign.event) {
                fail(SYNTAX_ERROR);
                return 0;
            }
            if (sign == Sign.REPEAT && nesting >= MAX_NESTING) {
                fail(LIMIT_ERROR);
                return 0;
            }
            startEvents();
            expectsEntry = false;
            if (sign == Sign.SLEEP) {
                return takeMinutes(world.nightLength() - world.minute);
            }
            tokens.goOn();
            if (sign == Sign.ADVANCE) {
                return takeMinutes(number(1, MAX_MINUTES));
            }
            switch (sign) {
                case SPILL:
                    readSpill();
                    break;
                case TURN:
                    world.walker.right = !world.walker.right;
                    break;
                case PACE:
                    world.pace = takeNumber(1, MAX_PACE);
                    break;
                case OPEN:
                    readCurtains(0);
                    break;
                case CLOSE:
                    readCurtains(1);
                    break;
                case CARRY:
                    readCarry();
                    break;
                case REPEAT:
                    readRepeat();
                    break;
                default:
                    readTiles(sign);
                    break;
            }
            return 0;
        }

        /** The walker comes to the floor when the settings are over, which is known only now. */
        private void startEvents() {
            if (!sawEvent) {
                sawEvent = true;
                world.relocate();
            }
        }

        private void readSpill() {
            int tile = number(0, world.tileCount() - 1);
            if (tile == NONE) {
                return;
            }
            if (!world.hasRoomForBowl(tile)) {
                fail(CONFLICT_ERROR);
                return;
            }
            tokens.goOn();
            int minutes = takeNumber(1, 99);
            if (minutes != NONE) {
                put(world.spills, tile, minutes);
            }
        }

        private void readCarry() {
            int tile = number(0, world.tileCount() - 1);
            if (tile == NONE) {
                return;
            }
            if (world.catTile == NONE) {
                fail(CONFLICT_ERROR);
                return;
            }
            tokens.goOn();
            world.catTile = tile;
        }

        /** Goes past the token that wants minutes to pass; 0 if it has an error or the minutes are too many. */
        private int takeMinutes(int minutes) {
            if (minutes == NONE) {
                return 0;
            }
            if (simulated + minutes > MAX_EVENT_MINUTES) {
                fail(LIMIT_ERROR);
                return 0;
            }
            tokens.goOn();
            simulated += minutes;
            return minutes;
        }

        private void readRepeat() {
            int count = takeNumber(1, 5);
            if (count == NONE) {
                return;
            }
            if (tokens.sign() != Sign.OPENING) {
                fail(SYNTAX_ERROR);
                return;
            }
            tokens.goOn();
            put(bodies, nesting, tokens.mark());
            put(passesLeft, nesting, count - 1);
            nesting++;
            expectsEntry = true;
        }
    }
}
