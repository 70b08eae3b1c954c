/** Promises 1 to 6, and section 6: the input buffer and the setup. */
final class SetupTest {
    private static final int SYNTAX = MoonlitFloor.SYNTAX_ERROR;
    private static final int RANGE = MoonlitFloor.RANGE_ERROR;
    private static final int CONFLICT = MoonlitFloor.CONFLICT_ERROR;
    private static final int LIMIT = MoonlitFloor.LIMIT_ERROR;

    private SetupTest() {
    }

    public static void main(String[] args) {
        constants();
        newObject();
        append();
        parseSetup();
        failedParse();
        errorOfLatestParse();
        tokens();
        syntaxOfSettings();
        syntaxOfEvents();
        rangesOfSettings();
        rangesOfEvents();
        conflicts();
        limits();
        smallestCode();
        defaults();
        earlierSetups();
        repeatedSettings();
        whenSettingsEnd();
        events();
        items();
        repeat();
        Check.end();
    }

    private static void constants() {
        Check.due("NONE", MoonlitFloor.NONE, -1);
        Check.due("SYNTAX_ERROR", MoonlitFloor.SYNTAX_ERROR, 1);
        Check.due("RANGE_ERROR", MoonlitFloor.RANGE_ERROR, 2);
        Check.due("CONFLICT_ERROR", MoonlitFloor.CONFLICT_ERROR, 3);
        Check.due("LIMIT_ERROR", MoonlitFloor.LIMIT_ERROR, 4);
    }

    /** Promises 1, 4, 5, 6. */
    private static void newObject() {
        MoonlitFloor floor = new MoonlitFloor();
        Check.due("bufferLength of a new object", floor.bufferLength(), 0);
        Check.due("parseErrorCode of a new object", floor.parseErrorCode(), 0);
        Check.due("parseErrorPosition of a new object", floor.parseErrorPosition(), -1);
        Check.due("undoCount of a new object", floor.undoCount(), 0);
        Check.noSetup("rows of a new object", floor::rows);
        Check.noSetup("undo of a new object", floor::undo);
        Check.noSetup("restoreState of a new object", () -> floor.restoreState(0));
        Check.noIndex("outputByte of a new object", () -> floor.outputByte(0));
        Check.noIndex("parseSetup(1) of a new object", () -> floor.parseSetup(1));
        Check.due("bufferLength of another object", new MoonlitFloor().bufferLength(), 0);
    }

    /** Promises 2 and 6. */
    private static void append() {
        MoonlitFloor floor = new MoonlitFloor();
        for (int length = 20; length <= 500; length += 20) {
            Check.due("append up to " + length, floor.append(0, -1, 1, 2, 3), length);
            Check.due("bufferLength", floor.bufferLength(), length);
        }
        Check.due("append beyond 500", floor.append(0, 0, 0, 0, 0), -1);
        Check.due("bufferLength after that", floor.bufferLength(), 500);

        MoonlitFloor ordered = new MoonlitFloor();
        // "floor 3 7;cat 20 up "
        ordered.append(0x666c6f6f, 0x72203320, 0x373b6361, 0x74203230, 0x20757020);
        Check.due("parseSetup(20)", ordered.parseSetup(20), 21);
        Check.due("catTile", ordered.catTile(), 20);

        MoonlitFloor full = new MoonlitFloor();
        Check.fill(full, "floor 2 2" + " ".repeat(480) + ";walker 1 l");
        Check.due("append to the full buffer", full.append(-1, -1, -1, -1, -1), -1);
        full.append(0, 0, 0, 0, 0);
        Check.noArgument("parse of 500 bytes", () -> full.parseSetup(500));
        Check.due("position at byte 499", full.parseErrorPosition(), 499);
    }

    /** Promise 3. */
    private static void parseSetup() {
        MoonlitFloor floor = new MoonlitFloor();
        Check.fill(floor, "floor 8 10;pace 3");
        Check.due("parseSetup", floor.parseSetup(17), 80);
        Check.due("bufferLength after parseSetup", floor.bufferLength(), 0);
        Check.due("pace", floor.pace(), 3);
        Check.fill(floor, "floor 2 3;pace 4;turn");
        Check.due("parse of the first bytes", floor.parseSetup(9), 6);
        Check.due("pace by the first bytes", floor.pace(), 1);
        Check.due("bufferLength after the first bytes", floor.bufferLength(), 0);

        floor.turnWalker();
        floor.saveState(0);
        floor.saveState(1);
        Check.fill(floor, "floor 2 2");
        floor.parseSetup(9);
        Check.due("undoCount after a parse", floor.undoCount(), 0);
        Check.noSetup("slot 0 after a parse", () -> floor.restoreState(0));
        Check.noSetup("slot 1 after a parse", () -> floor.restoreState(1));

        Check.noIndex("parseSetup(-1)", () -> floor.parseSetup(-1));
        Check.noIndex("parseSetup(1) of nothing", () -> floor.parseSetup(1));
        Check.noArgument("parseSetup(0)", () -> floor.parseSetup(0));
        Check.due("code of parseSetup(0)", floor.parseErrorCode(), SYNTAX);
        Check.due("position of parseSetup(0)", floor.parseErrorPosition(), 0);
    }

    private static void failedParse() {
        MoonlitFloor floor = Check.floor("floor 2 3;light 20;walker 1 left");
        floor.saveState(1);
        floor.advance(1);
        floor.writeRow(0);
        Check.fill(floor, "floor 4 4;advance 30;spill 99 3");
        Check.noArgument("an invalid setup", () -> floor.parseSetup(31));
        Check.due("bufferLength after an invalid setup", floor.bufferLength(), 0);
        Check.due("rows after an invalid setup", floor.rows(), 2);
        Check.due("columns after an invalid setup", floor.columns(), 3);
        Check.due("walkerTile after an invalid setup", floor.walkerTile(), 0);
        Check.due("minute after an invalid setup", floor.minute(), 1);
        Check.due("totalSteps after an invalid setup", floor.totalSteps(), 1);
        Check.due("undoCount after an invalid setup", floor.undoCount(), 1);
        Check.due("outputByte after an invalid setup", floor.outputByte(0), (int) 'W');
        Check.due("undo after an invalid setup", floor.undo(), 0);
        Check.due("walkerTile after undo", floor.walkerTile(), 1);
        Check.due("restoreState after an invalid setup", floor.restoreState(1), 15);
        MoonlitFloor without = new MoonlitFloor();
        Check.fill(without, "floor 2 1");
        Check.noArgument("an invalid first setup", () -> without.parseSetup(9));
        Check.noSetup("rows after an invalid first setup", without::rows);
    }

    /** Promises 4 and 5. */
    private static void errorOfLatestParse() {
        MoonlitFloor floor = new MoonlitFloor();
        Check.fill(floor, "floor 2 1");
        Check.noArgument("columns 1", () -> floor.parseSetup(9));
        Check.due("parseErrorCode", floor.parseErrorCode(), RANGE);
        Check.due("parseErrorPosition", floor.parseErrorPosition(), 8);
        Check.fill(floor, "floor 2 2");
        Check.noIndex("a length of 21", () -> floor.parseSetup(21));
        Check.due("bufferLength stays", floor.bufferLength(), 20);
        Check.due("parseErrorCode stays", floor.parseErrorCode(), RANGE);
        Check.due("parseErrorPosition stays", floor.parseErrorPosition(), 8);
        Check.due("all 20 bytes", floor.parseSetup(20), 4);
        Check.due("parseErrorCode after a valid setup", floor.parseErrorCode(), 0);
        Check.due("parseErrorPosition after a valid setup", floor.parseErrorPosition(), -1);
        Check.noIndex("a length of 1", () -> floor.parseSetup(1));
        Check.due("parseErrorCode stays 0", floor.parseErrorCode(), 0);
    }

    private static void tokens() {
        Check.valid("floor2 2");
        Check.valid("   floor   002   2   ");
        Check.valid("floor 2 5;walker 4left;pace3 ; rug 0row1");
        Check.valid("floor 2 2;rug row0column0");
        Check.error("floor 2 2;walker0 rightt", SYNTAX, 18);
        Check.error("floor 0002 2", SYNTAX, 6);
        Check.error("floor 2 2;curtains 1", SYNTAX, 10);
        Check.error("floor 2 2;pace 0001", SYNTAX, 15);
        Check.error("floor 2 2\t", SYNTAX, 9);
        Check.error("floor 2 2,", SYNTAX, 9);
        Check.error("floor 2 2;Turn", SYNTAX, 10);
        Check.error("floor 2 2;tURN", SYNTAX, 10);
        Check.error("floor 2 2;turn\u00e9", SYNTAX, 14);
        Check.error("floor 2 2;turn\u0000", SYNTAX, 14);
        Check.error("floor -2 2", SYNTAX, 6);
        Check.error("floor 2 2;turn {", SYNTAX, 15);
        Check.error("floor 2 2;turn`", SYNTAX, 14);
        Check.error("floor 2 2;pace 1:", SYNTAX, 16);
        Check.error("floor 2 2;pace 1/", SYNTAX, 16);
        // an error further on does not count
        Check.error("floor 2 1;$", RANGE, 8);
    }

    private static void syntaxOfSettings() {
        Check.error("", SYNTAX, 0);
        Check.error("   ", SYNTAX, 3);
        Check.error("flor 2 2", SYNTAX, 0);
        Check.error("floor", SYNTAX, 5);
        Check.error("floor 2", SYNTAX, 7);
        Check.error("floor 2  ", SYNTAX, 9);
        Check.error("floor 2 2;", SYNTAX, 10);
        Check.error("floor 2 2;;turn", SYNTAX, 10);
        Check.error("floor 2 2 2", SYNTAX, 10);
        Check.error("floor 2 2 pace 2", SYNTAX, 10);
        Check.error("floor 2 2;7", SYNTAX, 10);
        Check.error("floor 2 2;floor 2 2", SYNTAX, 10);
        for (String word : new String[] {"light", "pace", "drying", "rest", "stamina", "noise", "night", "walker",
            "cat", "curtain", "draught", "cloud", "rug", "rug row", "rug column", "draught 1", "cloud 1"}) {
            String setup = "floor 2 2;" + word;
            Check.error(setup, SYNTAX, setup.length());
            Check.error(setup + ";turn", SYNTAX, setup.length());
            Check.errorAtLast(setup + " up", SYNTAX);
        }
        Check.error("floor 2 2;walker 1", SYNTAX, 18);
        Check.error("floor 2 2;walker 1 up", SYNTAX, 19);
        Check.error("floor 2 2;walker 1 left right", SYNTAX, 24);
        Check.error("floor 2 2;walker left", SYNTAX, 17);
        Check.error("floor 2 2;light 2 3", SYNTAX, 18);
        Check.error("floor 2 2;cat 1 2", SYNTAX, 16);
        Check.error("floor 2 2;cat 1 up row", SYNTAX, 19);
        Check.error("floor 2 2;draught 1 2 3", SYNTAX, 22);
        Check.error("floor 2 2;cloud 1 2 3", SYNTAX, 20);
        Check.error("floor 2 2;curtain row 1", SYNTAX, 18);
        Check.error("floor 2 2;rug row row 1", SYNTAX, 18);
        Check.error("floor 2 2;left", SYNTAX, 10);
        Check.error("floor 2 2;row 1", SYNTAX, 10);
        Check.error("floor 2 2)", SYNTAX, 9);
        Check.error("floor 2 2(", SYNTAX, 9);
    }

    private static void syntaxOfEvents() {
        for (String word : new String[] {"bowl", "bowl row", "spill", "spill 1", "mop", "pace", "open", "close",
            "carry", "advance", "repeat", "repeat 2"}) {
            String setup = "floor 2 2;cat 0;turn;" + word;
            Check.error(setup, SYNTAX, setup.length());
            Check.error(setup + ";turn", SYNTAX, setup.length());
            Check.errorAtLast(setup + " left", SYNTAX);
        }
        for (String word : new String[] {"light 2", "drying 2", "rest 2", "stamina 2", "noise 2", "night 2",
            "walker 1 left", "cat 1", "curtain 1", "draught 1 2", "cloud 1 2", "rug 1"}) {
            Check.error("floor 2 2;turn;" + word, SYNTAX, 15);
            Check.error("floor 2 2;repeat 1(" + word + ")", SYNTAX, 19);
            Check.valid("floor 2 2;pace 2;" + word + ";turn");
        }
        for (String event : new String[] {"bowl 1", "spill 1 2", "mop row 0", "turn", "open 1", "close 0", "carry 0",
            "advance 1", "sleep", "repeat 1(turn)", "turn;pace 2"}) {
            String setup = "floor 2 2;cat 1;curtain 1;" + event;
            Check.valid(setup);
            Check.error(setup + ";light 2", SYNTAX, setup.length() + 1);
        }
        for (String word : new String[] {"floor", "row", "column", "stay", "up", "down", "left", "right", "(", ")", "7",
            "x", "!"}) {
            Check.error("floor 2 2;" + word + " 1", SYNTAX, 10);
            Check.error("floor 2 2;turn;" + word + " 1", SYNTAX, 15);
            Check.error("floor 2 2;repeat 1(" + word + " 1", SYNTAX, 19);
        }
        Check.valid("floor 2 2;pace 2;light 2;pace 3;turn;pace 4");
        Check.error("floor 2 2;turn;pace 4;light 2", SYNTAX, 22);
        Check.error("floor 2 2;turn 1", SYNTAX, 15);
        Check.error("floor 2 2;sleep 1", SYNTAX, 16);
        Check.error("floor 2 2;advance 1 1", SYNTAX, 20);
        Check.error("floor 2 2;turn;", SYNTAX, 15);
        Check.error("floor 2 2;turn turn", SYNTAX, 15);
        Check.error("floor 2 2;turn)", SYNTAX, 14);
        Check.error("floor 2 2;repeat 2 turn", SYNTAX, 19);
        Check.error("floor 2 2;repeat 2()", SYNTAX, 19);
        Check.error("floor 2 2;repeat 2(turn", SYNTAX, 23);
        Check.error("floor 2 2;repeat 2(turn;", SYNTAX, 24);
        Check.error("floor 2 2;repeat 2(turn;)", SYNTAX, 24);
        Check.error("floor 2 2;repeat 2(turn))", SYNTAX, 24);
        Check.error("floor 2 2;repeat 2(turn) turn", SYNTAX, 25);
        Check.error("floor 2 2;repeat 2(repeat 2(turn)", SYNTAX, 33);
        Check.error("floor 2 2;repeat(turn)", SYNTAX, 16);
    }

    private static void rangesOfSettings() {
        Check.range("floor ", 2, 8, " 2");
        Check.range("floor 2 ", 2, 10, "");
        Check.range("floor 2 2;light ", 1, 20, "");
        Check.range("floor 2 2;pace ", 1, 5, "");
        Check.range("floor 2 2;drying ", 1, 99, "");
        Check.range("floor 2 2;rest ", 0, 9, "");
        Check.range("floor 2 2;stamina ", 0, 99, "");
        Check.range("floor 2 2;noise ", 0, 20, "");
        Check.range("floor 2 2;night ", 0, 999, "");
        Check.range("floor 2 7;walker ", 0, 6, " left");
        Check.range("floor 3 7;cat ", 0, 20, "");
        Check.range("floor 3 7;curtain ", 0, 6, "");
        Check.range("floor 3 7;draught ", 0, 6, " 2");
        Check.range("floor 3 7;draught 1 ", 2, 60, "");
        Check.range("floor 3 7;cloud ", 0, 159, " 159");
        Check.range("floor 3 7;cloud 0 ", 0, 159, "");
        Check.range("floor 3 7;cloud 17 ", 17, 159, "");
        Check.range("floor 3 7;rug ", 0, 20, "");
        Check.range("floor 3 4;rug row ", 0, 2, "");
        Check.range("floor 3 7;rug column ", 0, 6, "");
        Check.error("floor 3 7;rug 1 21", RANGE, 16);
    }

    private static void rangesOfEvents() {
        Check.range("floor 2 2;turn;pace ", 1, 5, "");
        Check.range("floor 3 7;bowl ", 0, 20, "");
        Check.range("floor 3 7;bowl row ", 0, 2, "");
        Check.range("floor 3 7;bowl column ", 0, 6, "");
        Check.range("floor 3 7;mop row ", 0, 2, "");
        Check.range("floor 3 7;mop column ", 0, 6, "");
        Check.range("floor 3 7;spill ", 0, 20, " 5");
        Check.range("floor 3 7;spill 20 ", 1, 99, "");
        Check.range("floor 3 7;close ", 0, 6, "");
        Check.range("floor 3 3;curtain 0 1 2;open ", 0, 2, "");
        Check.range("floor 3 7;cat 1;carry ", 0, 20, "");
        Check.range("floor 3 7;advance ", 1, 300, "");
        Check.range("floor 3 7;repeat ", 1, 5, "(turn)");
        Check.error("floor 3 7;mop 21", RANGE, 14);
        Check.error("floor 3 7;bowl 1 row 3", RANGE, 21);
    }

    private static void conflicts() {
        Check.error("floor 2 3;curtain 1 2 1", CONFLICT, 22);
        Check.error("floor 2 3;curtain 1;curtain 1", CONFLICT, 28);
        Check.error("floor 2 3;rug 1 1", CONFLICT, 16);
        Check.error("floor 2 3;rug row 0 2", CONFLICT, 20);
        Check.error("floor 2 3;bowl 1 1", CONFLICT, 17);
        Check.error("floor 2 3;spill 1 9;bowl 1", CONFLICT, 25);
        Check.error("floor 2 3;bowl 1;spill 1 9", CONFLICT, 23);
        Check.error("floor 2 3;spill 1 9;spill 1 9", CONFLICT, 26);
        Check.error("floor 2 3;spill 1 2;advance 2;mop 1", CONFLICT, 34);
        Check.error("floor 2 3;mop 1", CONFLICT, 14);
        Check.error("floor 2 3;spill 1 1;bowl 1", CONFLICT, 25);
        Check.error("floor 2 3;spill 1 1;spill 1 1", CONFLICT, 26);
        Check.valid("floor 2 3;spill 1 1;mop 1");
        Check.error("floor 2 3;open 1", CONFLICT, 15);
        Check.error("floor 2 3;curtain 1;open 1 1", CONFLICT, 27);
        Check.error("floor 2 3;curtain 1;close 1", CONFLICT, 26);
        Check.error("floor 2 3;close 1 1", CONFLICT, 18);
        Check.error("floor 2 3;carry 1", CONFLICT, 16);
        Check.valid("floor 2 3;curtain 1;open 1;close 1;open 1");
        Check.valid("floor 2 3;spill 1 9;mop 1;bowl 1");
        Check.valid("floor 2 3;spill 1 2;advance 2;bowl 1");
        Check.valid("floor 2 3;mop row 1 column 0");
        Check.valid("floor 2 3;rug row 0 row 0 column 2");
        Check.valid("floor 2 3;bowl row 0 row 0 column 1");
        // the tile comes before the minutes
        Check.error("floor 2 3;bowl 1;spill 1 100", CONFLICT, 23);
    }

    private static void limits() {
        String moves = " up down left right stay".repeat(6);
        Check.valid("floor 2 3;cat 1" + moves);
        Check.error("floor 2 3;cat 1" + moves + " right", LIMIT, 16 + moves.length());
        Check.valid("floor 2 3;cat 1" + moves + ";cat 2" + moves);
        String clouds = ";cloud 1 2".repeat(4);
        Check.valid("floor 2 3" + clouds);
        Check.error("floor 2 3" + clouds + ";cloud 1 2", LIMIT, 50);
        Check.error("floor 2 3" + clouds + ";cloud", LIMIT, 50);
        Check.valid("floor 2 7;rug 0 1 2 3 4 5");
        Check.error("floor 2 7;rug 0 1 2 3 4 5 6", LIMIT, 26);
        Check.error("floor 2 7;rug 0 1 2 3;rug 4 5 6", LIMIT, 30);
        Check.error("floor 2 7;rug row 0", LIMIT, 18);
        Check.valid("floor 3 4;rug row 0 column 0");
        Check.valid("floor 3 5;rug row 0 14 row 0");
        Check.error("floor 3 5;rug row 0 column 0", LIMIT, 27);
        Check.error("floor 3 5;rug row 0 14 5", LIMIT, 23);
        Check.error("floor 8 2;rug column 1", LIMIT, 21);
        Check.valid("floor 2 2;repeat 1(repeat 1(repeat 1(turn)))");
        Check.error("floor 2 2;repeat 1(repeat 1(repeat 1(repeat 1(turn))))", LIMIT, 37);
        Check.error("floor 2 2;repeat 1(repeat 1(repeat 1(turn;repeat", LIMIT, 42);
        Check.valid("floor 2 2;repeat 1(repeat 1(repeat 1(turn);repeat 1(turn)));repeat 1(turn)");
        Check.valid("floor 2 2;repeat 4(advance 300;advance 200)");
        Check.error("floor 2 2;repeat 4(advance 300;advance 200);advance 1", LIMIT, 52);
        Check.error("floor 2 2;repeat 4(advance 300;advance 200);sleep", LIMIT, 44);
        Check.error("floor 2 2;repeat 4(advance 300;advance 201)", LIMIT, 39);
        Check.valid("floor 2 2;repeat 5(repeat 5(repeat 5(advance 16)))");
        Check.error("floor 2 2;repeat 5(repeat 5(repeat 5(advance 16)));advance 1", LIMIT, 59);
        Check.valid("floor 2 2;repeat 5(repeat 5(repeat 4(sleep;sleep)))");
        Check.error("floor 2 2;repeat 5(repeat 5(repeat 4(sleep;sleep)));sleep", LIMIT, 52);
        Check.error("floor 2 2;light 7;repeat 5(repeat 5(repeat 5(sleep);sleep))", LIMIT, 45);
    }

    private static void smallestCode() {
        Check.error("floor 2 3;turn;cloud 1 2", SYNTAX, 15);
        Check.error("floor 2 3" + ";cloud 1 2".repeat(4) + ";turn;cloud", SYNTAX, 55);
        Check.error("floor 2 3;rug 0 1 2 3 4 5 6", RANGE, 26);
        Check.error("floor 2 7;rug 0 1 2 3 4 5 5", CONFLICT, 26);
        Check.error("floor 2 3;bowl 6", RANGE, 15);
        Check.error("floor 2 3;carry 6", RANGE, 16);
        Check.error("floor 2 2;repeat 4(advance 300;advance 200);advance 301", RANGE, 52);
    }

    private static void defaults() {
        MoonlitFloor floor = Check.floor("floor 2 2");
        Check.due("minutesPerRow", floor.minutesPerRow(), 5);
        Check.due("pace", floor.pace(), 1);
        Check.due("night", floor.night(), 15);
        Check.due("minute", floor.minute(), 0);
        Check.due("walkerTile", floor.walkerTile(), 0);
        Check.due("facesRight", floor.facesRight(), true);
        Check.due("catTile", floor.catTile(), -1);
        for (int column = 0; column < 2; column++) {
            Check.due("isCurtainClosed " + column, floor.isCurtainClosed(column), false);
            Check.due("draughtPeriod " + column, floor.draughtPeriod(column), 0);
        }
        for (int tile = 0; tile < 4; tile++) {
            Check.due("hasRug " + tile, floor.hasRug(tile), false);
            Check.due("hasBowl " + tile, floor.hasBowl(tile), false);
            Check.due("spillTime " + tile, floor.spillTime(tile), 0);
            Check.due("wear " + tile, floor.wear(tile), 0);
        }
        // a drying time of 10, a rest time of 0, a stamina of 0 and no noise
        MoonlitFloor cat = Check.floor("floor 2 9;light 20;cat 9 up;bowl 0");
        Check.due("steps in the minute of the fall", cat.advance(1), 1);
        Check.due("fallCount", cat.fallCount(), 1);
        Check.due("spillTime", cat.spillTime(0), 9);
        Check.due("restRemaining", cat.restRemaining(), 0);
        cat.advance(7);
        Check.due("steps without a pause", cat.stepsSincePause(), 8);
        // beside the spill the walker is not startled, but has to turn
        Check.due("no noise", Check.floor("floor 2 3;light 20;cat 3 up;walker 1 left;bowl 0;advance 1").turnCount(), 1);
    }

    private static MoonlitFloor parsed(String... setups) {
        MoonlitFloor floor = new MoonlitFloor();
        for (String setup : setups) {
            Check.fill(floor, setup);
            try {
                floor.parseSetup(setup.length());
            } catch (IllegalArgumentException e) {
                Check.due("an error is wanted in " + setup, floor.parseErrorCode() > 0, true);
            }
        }
        return floor;
    }

    /** What an earlier setup set, or did before its error, is gone. */
    private static void earlierSetups() {
        String busy = "floor 3 5;light 3;pace 4;drying 5;rest 9;stamina 7;noise 9;night 3;walker 3 left;rug 2 6;"
                + "draught 0 7;cloud 3 4;curtain 4;cat 10 stay stay up up stay stay;bowl 0 3 14;sleep";
        String busier = busy + ";advance 7;spill 9 90";
        MoonlitFloor before = Check.floor(busy);
        Check.due("records of the busy setup", before.recordCount(), 1);
        Check.due("falls of it", before.fallCount(), 1);
        Check.due("rest of it", before.restRemaining(), 3);
        Check.due("slides of it", before.slideCount(), 1);
        Check.due("steps of the night of the other", Check.floor(busier).stepsTonight() > 0, true);
        Check.due("steps of the other since a pause", Check.floor(busier).stepsSincePause() > 0, true);
        String[] nexts = {"floor 2 9;light 20;cat 9 up;bowl 0", "floor 3 4;cat 11", "floor 3 4;night 0",
            "floor 3 4;noise 3;cat 3 left down right up;bowl row 2 6", "floor 3 4;light 9;cat 7 up left;bowl 3",
            "floor 3 4;light 9;pace 3"};
        for (String next : nexts) {
            for (String first : new String[] {busy, busier, busier + ";repeat 2(repeat 3(turn;light"}) {
                String[] due = States.of(Check.floor(next));
                MoonlitFloor again = parsed(first, next);
                States.same(next, States.of(again), due);
                MoonlitFloor fresh = Check.floor(next);
                for (int minutes : new int[] {1, 200}) {
                    again.advance(minutes);
                    fresh.advance(minutes);
                    States.same(next + " and then " + minutes, States.of(again), States.of(fresh));
                }
            }
        }
        String long2000 = "floor 2 2;repeat 4(advance 300;advance 200)";
        Check.due("2000 minutes once more", parsed(long2000, long2000).parseErrorCode(), 0);
        Check.due("2000 minutes after an error", parsed(long2000 + ";light", long2000).parseErrorCode(), 0);
        MoonlitFloor bracket = parsed("floor 2 2;repeat 2(turn;light", "floor 2 2;turn)");
        Check.due("a bracket that an earlier setup opened", bracket.parseErrorPosition(), 14);
        MoonlitFloor four = parsed("floor 2 2;repeat 2(turn;light", "floor 2 2;repeat 1(repeat 1(repeat 1(turn)))");
        Check.due("three brackets", four.parseErrorCode(), 0);
        Check.due("an entry after an error in an entry", parsed("floor 2 2;5", "floor 2 2;turn").parseErrorCode(), 0);
        Check.due("no semicolon after such an error", parsed("floor 2 2;5", "floor 2 2 turn").parseErrorPosition(), 10);
        Check.due("a setting after events of an earlier setup", parsed("floor 2 2;turn", "floor 2 2;light 3")
                .parseErrorCode(), 0);
    }

    private static void repeatedSettings() {
        MoonlitFloor floor = Check.floor("floor 2 4;light 2;light 3;pace 2;pace 3;night 3;night 12;walker 1 left;"
                + "walker 2 right;cat 1 up;cat 5 left left;draught 1 5;draught 2 6;draught 1 7;curtain 0;curtain 3;"
                + "rug 1;rug 2;cloud 4 4;cloud 5 5");
        Check.due("minutesPerRow", floor.minutesPerRow(), 3);
        Check.due("pace", floor.pace(), 3);
        Check.due("night", floor.night(), 12);
        Check.due("walkerTile", floor.walkerTile(), 2);
        Check.due("facesRight", floor.facesRight(), true);
        Check.due("catTile", floor.catTile(), 5);
        Check.due("draughtPeriod 1", floor.draughtPeriod(1), 7);
        Check.due("draughtPeriod 2", floor.draughtPeriod(2), 6);
        Check.due("isCurtainClosed 0", floor.isCurtainClosed(0), true);
        Check.due("isCurtainClosed 3", floor.isCurtainClosed(3), true);
        Check.due("hasRug 1", floor.hasRug(1), true);
        Check.due("hasRug 2", floor.hasRug(2), true);
        floor.advance(1);
        Check.due("catTile after a move", floor.catTile(), 4);
        floor.advance(3);
        Check.due("moonShines in the first cloud", floor.moonShines(), false);
        floor.advance(1);
        Check.due("moonShines in the second cloud", floor.moonShines(), false);
        MoonlitFloor bound = Check.floor("floor 2 4;cat 5 left;cat 6");
        bound.advance(2);
        Check.due("the last cat has no route", bound.catTile(), 6);
    }

    private static void whenSettingsEnd() {
        Check.due("walker at column 1", Check.floor("floor 2 4;walker 1 left").walkerTile(), 1);
        Check.due("curtain after walker", Check.floor("floor 2 4;walker 1 left;curtain 1").walkerTile(), 0);
        Check.due("relocated before close", Check.floor("floor 2 4;walker 1 left;close 1").walkerTile(), 1);
        Check.due("relocated before spill", Check.floor("floor 2 4;walker 1 left;spill 1 9").walkerTile(), 1);
        Check.due("not relocated after open", Check.floor("floor 2 2;curtain 0 1;open 0 1").walkerTile(), -1);
        Check.due("dark night", Check.floor("floor 2 4;night 0").walkerTile(), -1);
        Check.due("cloud", Check.floor("floor 2 4;cloud 0 0").walkerTile(), -1);
        Check.due("a pace as an event", Check.floor("floor 2 4;turn;pace 4").pace(), 4);
        Check.due("draught stirs nothing at first", Check.floor("floor 2 4;draught 1 2").isCurtainClosed(1), false);
    }

    private static void events() {
        MoonlitFloor floor = Check.floor("floor 2 4;light 10;pace 2;turn;bowl 5;spill 6 7;spill 7 9;mop 6;close 3;"
                + "close 2;open 3;pace 3");
        Check.due("facesRight", floor.facesRight(), false);
        Check.due("hasBowl 5", floor.hasBowl(5), true);
        Check.due("spillTime 6", floor.spillTime(6), 0);
        Check.due("spillTime 7", floor.spillTime(7), 9);
        Check.due("isCurtainClosed 2", floor.isCurtainClosed(2), true);
        Check.due("isCurtainClosed 3", floor.isCurtainClosed(3), false);
        Check.due("pace", floor.pace(), 3);
        Check.due("turnCount", floor.turnCount(), 0);
        MoonlitFloor later = Check.floor("floor 2 4;light 10;spill 7 9;advance 3;turn;advance 1");
        Check.due("spillTime after 4 minutes", later.spillTime(7), 5);
        Check.due("walkerTile after 4 minutes", later.walkerTile(), 2);
        Check.due("totalSteps", later.totalSteps(), 4);
        Check.due("undoCount", later.undoCount(), 0);
        MoonlitFloor carried = Check.floor("floor 2 4;cat 4 right up left;advance 1;carry 3;bowl 2");
        Check.due("catTile after carry", carried.catTile(), 3);
        carried.advance(1);
        Check.due("the next move is up", carried.catTile(), 3);
        carried.advance(1);
        Check.due("then left", carried.catTile(), 2);
        Check.due("the bowl of tile 2", carried.hasBowl(2), false);
        MoonlitFloor slept = Check.floor("floor 2 4;light 7;advance 5;sleep");
        Check.due("night after sleep", slept.night(), 16);
        Check.due("minute after sleep", slept.minute(), 0);
        Check.due("a whole night", Check.floor("floor 2 4;light 7;sleep;sleep").night(), 17);
    }

    private static void items() {
        MoonlitFloor floor = Check.floor("floor 3 3;spill 4 50;bowl 1;bowl row 1 column 1;spill 0 40;mop column 1");
        int[] bowls = {1, 3, 5, 7};
        for (int tile = 0; tile < 9; tile++) {
            boolean due = false;
            for (int bowl : bowls) {
                due |= bowl == tile;
            }
            Check.due("hasBowl " + tile, floor.hasBowl(tile), due);
        }
        Check.due("spillTime 4", floor.spillTime(4), 0);
        Check.due("spillTime 0", floor.spillTime(0), 40);
        MoonlitFloor rugs = Check.floor("floor 3 3;rug row 2 column 1 0");
        boolean[] due = {true, true, false, false, true, false, true, true, true};
        for (int tile = 0; tile < 9; tile++) {
            Check.due("hasRug " + tile, rugs.hasRug(tile), due[tile]);
        }
        MoonlitFloor mopped = Check.floor("floor 3 3;spill 0 9;spill 2 9;spill 3 9;spill 8 9;mop row 0 8");
        Check.due("spills that are left", mopped.spillCount(), 1);
        Check.due("spillTime 3", mopped.spillTime(3), 9);
    }

    private static void repeat() {
        Check.due("three turns", Check.floor("floor 2 2;repeat 3(turn)").facesRight(), false);
        Check.due("one turn", Check.floor("floor 2 2;repeat 1(turn)").facesRight(), false);
        Check.due("four turns", Check.floor("floor 2 2;repeat 2 ( repeat 2 ( turn ) )").facesRight(), true);
        MoonlitFloor floor = Check.floor("floor 2 2;light 20;repeat 2(advance 1;repeat 3(advance 2;turn));advance 1");
        Check.due("minutes of brackets in brackets", floor.minute(), 15);
        Check.due("turns of brackets in brackets", Check.floor("floor 2 2;repeat 3(repeat 5(repeat 3(turn)))")
                .facesRight(), false);
        Check.error("floor 2 2;repeat 2(bowl 1)", CONFLICT, 24);
        Check.error("floor 2 2;repeat 2(close 1;turn)", CONFLICT, 25);
        Check.valid("floor 2 2;repeat 2(bowl row 1)");
        Check.valid("floor 2 2;repeat 5(close 1;open 1)");
        Check.error("floor 2 2;spill 3 7;repeat 2(mop 3)", CONFLICT, 33);
        Check.error("floor 2 2;repeat 5(bowl 1;repeat 2(turn);pace 6)", RANGE, 46);
    }
}
