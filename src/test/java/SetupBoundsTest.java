/** The bounds that promises 1 to 6 and section 6 name: the last that is taken, and the first that is refused. */
final class SetupBoundsTest {
    private static final int SYNTAX = MoonlitFloor.SYNTAX_ERROR;
    private static final int RANGE = MoonlitFloor.RANGE_ERROR;
    private static final int CONFLICT = MoonlitFloor.CONFLICT_ERROR;
    private static final int LIMIT = MoonlitFloor.LIMIT_ERROR;
    private static final String LEAST = "floor 2 2;";
    private static final String MOST = "floor 8 10;";

    private SetupBoundsTest() {
    }

    public static void main(String[] args) {
        newObject();
        fullBuffer();
        bytesInOrder();
        lengthOfTheParse();
        longestParse();
        onlyTheFirstBytes();
        numberOfTiles();
        emptyAfterwards();
        validSetupClears();
        invalidSetupLeaves();
        errorOfNoCall();
        positionOfTheError();
        setupThatEndsTooEarly();
        lengthOfTheBuffer();
        lengthsOfWords();
        lengthsOfNumbers();
        everyByte();
        spaces();
        endsOfTokens();
        leadingZeros();
        noSettingsAndNoEvents();
        listsOfOneAndMore();
        rangesOfTheFloor();
        rangesOfMinutes();
        rangesOfSettings();
        rangesOfClouds();
        rangeOfRepeat();
        whatMustExist();
        defaults();
        lastSettingHolds();
        afterTheLastSetting();
        sleep();
        paceBeforeEvents();
        carriedCat();
        rowsAndColumns();
        skippedTiles();
        laterPasses();
        firstError();
        smallestCode();
        syntaxErrors();
        conflictOfCurtains();
        conflictOfRugs();
        conflictOfBowlsAndSpills();
        conflictOfMop();
        conflictOfOpenAndClose();
        conflictOfCarry();
        limitOfMoves();
        limitOfClouds();
        limitOfRugs();
        limitOfRugsInLines();
        limitOfRepeats();
        limitOfMinutes();
        Check.end();
    }

    // ---- promises 1 to 6

    private static MoonlitFloor holding(String text) {
        MoonlitFloor floor = new MoonlitFloor();
        Check.fill(floor, text);
        return floor;
    }

    private static void newObject() {
        Sentence.promise(1, "Creates a simulator without a setup and with an empty input buffer.");
        MoonlitFloor floor = new MoonlitFloor();
        Check.due("bufferLength", floor.bufferLength(), 0);
        Check.noSetup("rows", floor::rows);
        Check.noIndex("parseSetup 1", () -> floor.parseSetup(1));
        Check.noArgument("parseSetup 0", () -> floor.parseSetup(0));
        Check.due("append", floor.append(0, 0, 0, 0, 0), 20);
    }

    private static void fullBuffer() {
        Sentence.promise(2, "Returns the new length of the buffer; NONE if the buffer would hold more than 500 bytes, in"
                + " which case nothing is appended.");
        MoonlitFloor floor = holding("floor 2 2;cat 3" + " ".repeat(465));
        Check.due("bufferLength of 24 calls", floor.bufferLength(), 480);
        // 15 spaces, and ";turn" as the last five of 500 bytes
        Check.due("append up to 500", floor.append(0x20202020, 0x20202020, 0x20202020, 0x2020203b, 0x7475726e), 500);
        for (int i = 0; i < 3; i++) {
            Check.due("append beyond 500", floor.append(0x21212121, 0x21212121, 0x21212121, 0x21212121, 0x21212121), -1);
            Check.due("bufferLength", floor.bufferLength(), 500);
        }
        Check.due("parseSetup 500", floor.parseSetup(500), 4);
        Check.due("catTile", floor.catTile(), 3);
        Check.due("facesRight by the last word", floor.facesRight(), false);
        Check.due("append to the buffer that is empty again", floor.append(0, 0, 0, 0, 0), 20);
    }

    private static void bytesInOrder() {
        Sentence.promise(2, "Appends twenty bytes to the input buffer: the four bytes of each argument in order, most"
                + " significant byte first.");
        for (int b : new int[] {1, 127, 128, 255}) {
            for (int place = 0; place < 20; place++) {
                int[] words = new int[5];
                for (int i = 0; i < 20; i++) {
                    words[i / 4] = words[i / 4] << 8 | (i == place ? b : ' ');
                }
                MoonlitFloor floor = new MoonlitFloor();
                floor.append(words[0], words[1], words[2], words[3], words[4]);
                Check.noArgument("parseSetup with byte " + b, () -> floor.parseSetup(20));
                Check.due("code of byte " + b, floor.parseErrorCode(), SYNTAX);
                Check.due("place of byte " + b, floor.parseErrorPosition(), place);
            }
        }
    }

    private static void lengthOfTheParse() {
        Sentence.promise(3, "Throws IndexOutOfBoundsException if length is negative or greater than the length of the"
                + " buffer (checked first; the buffer and the latest parse error stay unchanged)");
        MoonlitFloor empty = new MoonlitFloor();
        for (int length : new int[] {-1, 1, 500, Integer.MIN_VALUE, Integer.MAX_VALUE}) {
            Check.noIndex("parseSetup of nothing, " + length, () -> empty.parseSetup(length));
            Check.due("parseErrorCode", empty.parseErrorCode(), 0);
            Check.due("parseErrorPosition", empty.parseErrorPosition(), -1);
        }
        Check.noArgument("parseSetup of nothing, 0", () -> empty.parseSetup(0));
        Check.due("parseErrorCode", empty.parseErrorCode(), SYNTAX);

        MoonlitFloor floor = holding("floor 9 2");
        Check.noArgument("9 rows", () -> floor.parseSetup(9));
        Check.fill(floor, "floor 2 2;night   12");
        for (int length : new int[] {-1, 21, Integer.MIN_VALUE, Integer.MAX_VALUE}) {
            Check.noIndex("parseSetup of 20 bytes, " + length, () -> floor.parseSetup(length));
            Check.due("bufferLength", floor.bufferLength(), 20);
            Check.due("parseErrorCode", floor.parseErrorCode(), RANGE);
            Check.due("parseErrorPosition", floor.parseErrorPosition(), 6);
        }
        Check.due("parseSetup of 20 bytes, 20", floor.parseSetup(20), 4);
        Check.due("night by the last byte", floor.night(), 12);
        Check.noIndex("parseSetup of the emptied buffer", () -> floor.parseSetup(1));
        Check.due("parseErrorCode", floor.parseErrorCode(), 0);
        Check.due("parseErrorPosition", floor.parseErrorPosition(), -1);
        Check.due("night", floor.night(), 12);
    }

    private static void longestParse() {
        Sentence.promise(3, "Throws IndexOutOfBoundsException if length is negative or greater than the length of the"
                + " buffer");
        MoonlitFloor floor = holding("floor 2 2;night" + " ".repeat(482) + "123");
        Check.noIndex("parseSetup of 500 bytes, 501", () -> floor.parseSetup(501));
        Check.due("parseSetup of 500 bytes, 500", floor.parseSetup(500), 4);
        Check.due("night", floor.night(), 123);
        Check.fill(floor, "floor 2 2;night" + " ".repeat(482) + "123");
        floor.parseSetup(499);
        Check.due("night of 499 bytes", floor.night(), 12);
    }

    private static void onlyTheFirstBytes() {
        Sentence.promise(3, "Parses the first bytes of the input buffer as a setup (section 6) and replaces the"
                + " simulation by it.");
        String text = "floor 2 10;night 123";
        int[][] errors = {{1, SYNTAX, 0}, {4, SYNTAX, 0}, {5, SYNTAX, 5}, {6, SYNTAX, 6}, {7, SYNTAX, 7}, {8, SYNTAX, 8},
            {9, RANGE, 8}, {11, SYNTAX, 11}, {12, SYNTAX, 11}, {15, SYNTAX, 11}, {16, SYNTAX, 16}, {17, SYNTAX, 17}};
        for (int[] error : errors) {
            MoonlitFloor floor = holding(text);
            Check.noArgument("the first " + error[0], () -> floor.parseSetup(error[0]));
            Check.due("code of the first " + error[0], floor.parseErrorCode(), error[1]);
            Check.due("place of the first " + error[0], floor.parseErrorPosition(), error[2]);
        }
        int[][] nights = {{10, 15}, {18, 1}, {19, 12}, {20, 123}};
        for (int[] night : nights) {
            MoonlitFloor floor = holding(text);
            Check.due("the first " + night[0], floor.parseSetup(night[0]), 20);
            Check.due("night of the first " + night[0], floor.night(), night[1]);
        }
    }

    private static void numberOfTiles() {
        Sentence.promise(3, "Returns the number of tiles of the floor.");
        Check.due("the least floor", holding("floor 2 2").parseSetup(9), 4);
        Check.due("the fewest rows", holding("floor 2 10").parseSetup(10), 20);
        Check.due("the fewest columns", holding("floor 8 2").parseSetup(9), 16);
        Check.due("the greatest floor", holding("floor 8 10").parseSetup(10), 80);
    }

    private static void emptyAfterwards() {
        Sentence.promise(3, "The buffer is empty afterwards, whether the setup is valid or not.");
        MoonlitFloor floor = holding("floor 2 2" + " ".repeat(491));
        Check.due("a valid setup", floor.parseSetup(9), 4);
        Check.due("bufferLength after a valid setup", floor.bufferLength(), 0);
        Check.fill(floor, "floor 2 2;!");
        Check.noArgument("an invalid setup", () -> floor.parseSetup(11));
        Check.due("bufferLength after an invalid setup", floor.bufferLength(), 0);
        Check.fill(floor, "floor 2 2");
        Check.noArgument("a setup of 0 bytes", () -> floor.parseSetup(0));
        Check.due("bufferLength after a setup of 0 bytes", floor.bufferLength(), 0);
        Check.fill(floor, "      2");
        Check.noArgument("nothing is left of what was there", () -> floor.parseSetup(9));
        Check.due("parseErrorPosition", floor.parseErrorPosition(), 6);
    }

    private static MoonlitFloor changedAndSaved() {
        MoonlitFloor floor = Check.floor("floor 2 9;light 20;pace 3;night 14");
        floor.saveState(0);
        floor.setPace(2);
        floor.advance(1);
        floor.saveState(1);
        return floor;
    }

    private static void validSetupClears() {
        Sentence.promise(3, "If it is valid, the undo history and both saved states are cleared.");
        MoonlitFloor floor = changedAndSaved();
        Check.due("undoCount before", floor.undoCount(), 2);
        Check.fill(floor, "floor 2 2");
        floor.parseSetup(9);
        Check.due("undoCount", floor.undoCount(), 0);
        Check.noSetup("undo", floor::undo);
        Check.noSetup("restoreState 0", () -> floor.restoreState(0));
        Check.noSetup("restoreState 1", () -> floor.restoreState(1));
        floor.saveState(1);
        Check.noSetup("restoreState 0 after a new state in the other slot", () -> floor.restoreState(0));
    }

    private static void invalidSetupLeaves() {
        Sentence.promise(3, "Throws IllegalArgumentException if the setup is invalid; the previous simulation stays"
                + " unchanged");
        MoonlitFloor floor = changedAndSaved();
        String[] before = States.of(floor);
        String invalid = "floor 3 3;light 2;night 7;cat 1 up;turn;pace 5;bowl row 1;advance 30;sleep;$";
        Check.fill(floor, invalid);
        Check.noArgument(invalid, () -> floor.parseSetup(invalid.length()));
        States.same("after " + invalid, States.of(floor), before);
        Check.due("undoCount", floor.undoCount(), 2);
        Check.due("undo", floor.undo(), 1);
        Check.due("minute", floor.minute(), 0);
        Check.due("undo", floor.undo(), 0);
        Check.due("pace", floor.pace(), 3);
        Check.due("restoreState 1", floor.restoreState(1), 14);
        Check.due("minute of slot 1", floor.minute(), 1);
        Check.due("restoreState 0", floor.restoreState(0), 14);
        Check.due("minute of slot 0", floor.minute(), 0);
        MoonlitFloor none = holding("floor 2 2;turn;!");
        Check.noArgument("an invalid first setup", () -> none.parseSetup(16));
        Check.noSetup("rows after an invalid first setup", none::rows);
        Check.noSetup("restoreState after an invalid first setup", () -> none.restoreState(0));
    }

    private static void errorOfNoCall() {
        Sentence.promise(4, "0 if that call succeeded or if there was no such call.");
        MoonlitFloor floor = new MoonlitFloor();
        Check.due("no call", floor.parseErrorCode(), 0);
        Check.noIndex("a call that is none", () -> floor.parseSetup(1));
        Check.due("still no call", floor.parseErrorCode(), 0);
        int[] codes = {SYNTAX, 0, RANGE, CONFLICT, LIMIT, 0};
        String[] setups = {"floor 2 2;", "floor 2 2", "floor 2 1", "floor 2 2;rug 0 0", "floor 2 7;rug row 0", "floor 2 2"};
        for (int i = 0; i < setups.length; i++) {
            int length = setups[i].length();
            Check.fill(floor, setups[i]);
            if (codes[i] == 0) {
                Check.taken(setups[i], () -> floor.parseSetup(length));
                Check.due("place of " + setups[i], floor.parseErrorPosition(), -1);
            } else {
                Check.noArgument(setups[i], () -> floor.parseSetup(length));
            }
            Check.due("code of " + setups[i], floor.parseErrorCode(), codes[i]);
        }
    }

    private static void positionOfTheError() {
        Sentence.promise(5, "Returns index of the first byte of the token with the error; the number of parsed bytes if the"
                + " setup ended too early; NONE if parseErrorCode() is 0.");
        Check.due("no call", new MoonlitFloor().parseErrorPosition(), -1);
        Check.error("!", SYNTAX, 0);
        Check.error("floor 2 2" + " ".repeat(490) + "!", SYNTAX, 499);
        Check.error("floor 2 2;night" + " ".repeat(481) + "1000", SYNTAX, 496);
        Check.error("floor 2 2;pace" + " ".repeat(483) + "006", RANGE, 497);
    }

    private static void setupThatEndsTooEarly() {
        Sentence.promise(5, "the number of parsed bytes if the setup ended too early");
        Check.error("", SYNTAX, 0);
        Check.error(" ", SYNTAX, 1);
        Check.error("floor 2 2;", SYNTAX, 10);
        Check.error("floor 2 2; ", SYNTAX, 11);
        Check.error("floor 2 2;" + " ".repeat(490), SYNTAX, 500);
        MoonlitFloor floor = holding("floor 2 2;turn");
        Check.noArgument("10 of 20 bytes", () -> floor.parseSetup(10));
        Check.due("the number of parsed bytes", floor.parseErrorPosition(), 10);
    }

    private static void lengthOfTheBuffer() {
        Sentence.promise(6, "Returns the length, 0 to 500.");
        MoonlitFloor floor = new MoonlitFloor();
        for (int calls = 0; calls <= 27; calls++) {
            Check.due("bufferLength after " + calls + " calls", floor.bufferLength(), Math.min(calls, 25) * 20);
            floor.append(0, 0, 0, 0, 0);
        }
    }

    // ---- tokens

    private static void lengthsOfWords() {
        Sentence.term("words of 1 to 7 lower-case letters, numbers of 1 to 3 digits, semicolons, and round brackets.");
        Check.valid(LEAST + "stamina 1;curtain 1;draught 1 2;advance 1");
        Check.valid(LEAST + "cat 1 up");
        for (String word : new String[] {"staminas", "curtainn", "draughts", "advances", "turnturn", "paceturns",
            "advanceturn", "x", "turntur", "tur", "t", "abcdefg", "abcdefgh", "a".repeat(490)}) {
            Check.error(LEAST + word, SYNTAX, 10);
        }
        Check.error("floor 2 2;cat 1 upstay", SYNTAX, 16);
        Check.error("floor 2 2;cat 1 leftleft", SYNTAX, 16);
        Check.error("floor 2 2;walker 1 rightright", SYNTAX, 19);
    }

    private static void lengthsOfNumbers() {
        Sentence.term("a number is longer than 3 digits");
        Check.due("3 digits", Check.floor(LEAST + "night 999").night(), 999);
        Check.due("1 digit", Check.floor(LEAST + "night 9").night(), 9);
        Check.error(LEAST + "night 1000", SYNTAX, 16);
        Check.error(LEAST + "night 0999", SYNTAX, 16);
        Check.error(LEAST + "night 0000", SYNTAX, 16);
        Check.error(LEAST + "night " + "1".repeat(484), SYNTAX, 16);
        Check.error("floor 0002 2", SYNTAX, 6);
        Check.error("floor 2 0002", SYNTAX, 8);
        Check.error("floor 2 2;cloud 001 0002", SYNTAX, 20);
    }

    private static void everyByte() {
        Sentence.term("the byte starts no token");
        for (int b = 0; b < 256; b++) {
            String setup = "floor 2 2" + (char) b;
            if (b == ' ') {
                Check.valid(setup);
            } else if (b >= '0' && b <= '9') {
                Check.error(setup, RANGE, 8);
            } else {
                Check.error(setup, SYNTAX, b == ';' ? 10 : 9);
            }
            if (b >= 'a' && b <= 'z') {
                Check.error("floor 2 2;turn" + (char) b, SYNTAX, 10);
            } else if (b != ' ') {
                Check.error("floor 2 2;turn" + (char) b, SYNTAX, b == ';' ? 15 : 14);
            }
        }
    }

    private static void spaces() {
        Sentence.term("Spaces (byte 32) may stand between tokens.");
        Check.valid("floor 2 2;repeat 2(turn;turn)");
        Check.valid("floor  2  2  ;  repeat  2  (  turn  ;  turn  )");
        Check.valid("floor" + " ".repeat(492) + "2 2");
        Check.error("fl oor 2 2", SYNTAX, 0);
        Check.error("floor 2 2;tu rn", SYNTAX, 10);
        Check.error("floor 2 2;pace 1 1", SYNTAX, 17);
        Check.error("floor 2\u00a02", SYNTAX, 7);
        Check.error("floor 2\n2", SYNTAX, 7);
    }

    private static void endsOfTokens() {
        Sentence.term("A word ends at the first byte that is not a lower-case letter, and a number ends at the first byte that"
                + " is not a digit.");
        MoonlitFloor floor = Check.floor("floor2 3;pace3;cat5left right;walker1left;rug0row1 2column0");
        Check.due("pace", floor.pace(), 3);
        Check.due("catTile", floor.catTile(), 5);
        Check.due("walkerTile", floor.walkerTile(), 1);
        Check.due("hasRug 2", floor.hasRug(2), true);
        Check.error("floor2 2;pace1x", SYNTAX, 14);
        Check.error("floor2 2;paceX1", SYNTAX, 13);
        Check.error("floor2 2;pace1.", SYNTAX, 14);
    }

    private static void leadingZeros() {
        Sentence.term("Leading zeros are allowed.");
        MoonlitFloor floor = Check.floor("floor 002 010;night 007;pace 05;walker 009 left;cat 000");
        Check.due("rows", floor.rows(), 2);
        Check.due("columns", floor.columns(), 10);
        Check.due("night", floor.night(), 7);
        Check.due("pace", floor.pace(), 5);
        Check.due("walkerTile", floor.walkerTile(), 9);
        Check.due("catTile", floor.catTile(), 0);
        Check.error("floor 001 2", RANGE, 6);
        Check.error("floor 2 2;pace 00", RANGE, 15);
    }

    // ---- the grammar

    private static void noSettingsAndNoEvents() {
        Sentence.term("setup = \"floor\" rows columns { \";\" setting } { \";\" event }");
        Check.valid("floor 2 2");
        Check.valid("floor 2 2;light 1");
        Check.valid("floor 2 2;turn");
        Check.valid("floor 2 2" + ";pace 1".repeat(70));
        Check.valid("floor 2 2" + ";turn".repeat(98));
        Check.error("light 1", SYNTAX, 0);
        Check.error(";floor 2 2", SYNTAX, 0);
        Check.error("floor 2;light 1", SYNTAX, 7);
        Check.error("floor;light 1", SYNTAX, 5);
        Check.error("floor 2 2;", SYNTAX, 10);
        Check.error("floor 2 2;light 1;", SYNTAX, 18);
        Check.error("floor 2 2;turn;", SYNTAX, 15);
        Check.error("floor 2 2;turn;;turn", SYNTAX, 15);
        Check.error("floor 2 2;floor 2 2", SYNTAX, 10);
    }

    private static void listsOfOneAndMore() {
        Sentence.term("tiles = item { item } item = tile | \"row\" row | \"column\" column");
        String all = " 0 1 2 3 4 5 6 7 8 9";
        for (String word : new String[] {"curtain", "close"}) {
            Check.error(MOST + word, SYNTAX, 11 + word.length());
            Check.error(MOST + word + ";turn", SYNTAX, 11 + word.length());
            Check.valid(MOST + word + " 9");
            Check.valid(MOST + word + all);
            Check.error(MOST + word + all + " row", SYNTAX, 32 + word.length());
        }
        Check.error(MOST + "curtain" + all + ";open", SYNTAX, 43);
        Check.valid(MOST + "curtain" + all + ";open 0");
        Check.valid(MOST + "curtain" + all + ";open" + all);
        for (String word : new String[] {"rug", "bowl", "mop"}) {
            int end = 11 + word.length();
            Check.error(MOST + word, SYNTAX, end);
            Check.error(MOST + word + ";turn", SYNTAX, end);
            Check.error(MOST + word + " left", SYNTAX, end + 1);
            Check.error(MOST + word + " row", SYNTAX, end + 4);
            Check.error(MOST + word + " column", SYNTAX, end + 7);
            Check.error(MOST + word + " row column 1", SYNTAX, end + 5);
        }
        Check.valid(MOST + "rug 1");
        Check.valid(MOST + "rug 1 2 3 4 5 6");
        Check.valid(MOST + "bowl 1 row 7 column 0 row 0 22");
        Check.valid(MOST + "mop row 0" + " column 0 row 1".repeat(20));
    }

    // ---- ranges

    private static void rangesOfTheFloor() {
        Sentence.term("The ranges are: rows 2 to 8; columns 2 to 10;");
        Check.range("floor ", 2, 8, " 10");
        Check.range("floor 8 ", 2, 10, ";turn");
        Check.error("floor 0 2", RANGE, 6);
        Check.error("floor 2 0", RANGE, 8);
        Check.error("floor 999 2", RANGE, 6);
        Check.error("floor 2 999", RANGE, 8);
        Check.due("rows", Check.floor("floor 8 2").rows(), 8);
        Check.due("columns", Check.floor("floor 2 10").columns(), 10);
    }

    private static void rangesOfMinutes() {
        Sentence.term("minutes of \"light\" 1 to 20, of \"drying\" 1 to 99, of \"rest\" 0 to 9, of \"spill\" 1 to 99, of"
                + " \"draught\" 2 to 60, of \"advance\" 1 to 300;");
        Check.range(LEAST + "light ", 1, 20, "");
        Check.range(LEAST + "drying ", 1, 99, "");
        Check.range(LEAST + "rest ", 0, 9, "");
        Check.range(LEAST + "spill 3 ", 1, 99, "");
        Check.range(LEAST + "draught 1 ", 2, 60, "");
        Check.error(LEAST + "draught 1 0", RANGE, 20);
        Check.range(LEAST + "advance ", 1, 300, "");
        Check.error(LEAST + "advance 999", RANGE, 18);
        Check.due("light 20", Check.floor(LEAST + "light 20").minutesPerRow(), 20);
        Check.due("light 1", Check.floor(LEAST + "light 1").minutesPerRow(), 1);
        Check.due("spill 99", Check.floor(LEAST + "spill 3 99").spillTime(3), 99);
        Check.due("spill 1", Check.floor(LEAST + "spill 3 1").spillTime(3), 1);
        Check.due("draught 60", Check.floor(LEAST + "draught 1 60").draughtPeriod(1), 60);
        Check.due("draught 2", Check.floor(LEAST + "draught 1 2").draughtPeriod(1), 2);
        Check.due("advance 1", Check.floor(LEAST + "advance 1").minute(), 1);
        Check.due("advance 300, 30 nights of 10 minutes", Check.floor(LEAST + "advance 300").night(), 45);
    }

    private static void rangesOfSettings() {
        Sentence.term("pace 1 to 5; steps of \"stamina\" 0 to 99; range of \"noise\" 0 to 20; night 0 to 999;");
        Check.range(LEAST + "pace ", 1, 5, "");
        Check.range(LEAST + "turn;pace ", 1, 5, "");
        Check.range(LEAST + "stamina ", 0, 99, "");
        Check.range(LEAST + "noise ", 0, 20, "");
        Check.range(LEAST + "night ", 0, 999, "");
        Check.error(LEAST + "night 1000", SYNTAX, 16);
        Check.due("pace 5", Check.floor(LEAST + "pace 5").pace(), 5);
        Check.due("pace 5 as an event", Check.floor(LEAST + "turn;pace 5").pace(), 5);
        Check.due("night 0", Check.floor(LEAST + "night 0").night(), 0);
        Check.due("night 999", Check.floor(LEAST + "night 999").night(), 999);
    }

    private static void rangesOfClouds() {
        Sentence.term("first 0 to 159; last from first to 159;");
        Check.range(LEAST + "cloud ", 0, 159, " 159");
        Check.range(LEAST + "cloud 0 ", 0, 159, "");
        Check.range(LEAST + "cloud 1 ", 1, 159, "");
        Check.range(LEAST + "cloud 80 ", 80, 159, "");
        Check.range(LEAST + "cloud 159 ", 159, 159, "");
        // the first is looked at before the last
        Check.error(LEAST + "cloud 160 160", RANGE, 16);
    }

    private static void rangeOfRepeat() {
        Sentence.term("count of \"repeat\" 1 to 5.");
        Check.range(LEAST + "repeat ", 1, 5, "(turn)");
        int[] minutes = {1, 2, 3, 4, 5};
        for (int count = 1; count <= 5; count++) {
            Check.due("minute of " + count + " passes",
                    Check.floor("floor 2 2;light 20;repeat " + count + "(advance 1)").minute(), minutes[count - 1]);
        }
        Check.due("minute of 5 times 5 times 5 passes",
                Check.floor("floor 8 2;light 20;repeat 5(repeat 5(repeat 5(advance 1)))").minute(), 125);
    }

    private static void whatMustExist() {
        Sentence.term("A row, a column or a tile must exist.");
        int[][] floors = {{2, 2}, {2, 10}, {8, 2}, {8, 10}, {3, 4}};
        for (int[] size : floors) {
            String floor = "floor " + size[0] + " " + size[1] + ";";
            int row = size[0] - 1;
            int column = size[1] - 1;
            int tile = size[0] * size[1] - 1;
            Check.range(floor + "walker ", 0, column, " left");
            Check.range(floor + "cat ", 0, tile, " up");
            Check.range(floor + "curtain ", 0, column, "");
            Check.range(floor + "draught ", 0, column, " 2");
            Check.range(floor + "rug ", 0, tile, "");
            Check.range(floor + "bowl ", 0, tile, "");
            Check.range(floor + "bowl row ", 0, row, "");
            Check.range(floor + "bowl column ", 0, column, "");
            Check.range(floor + "spill ", 0, tile, " 9");
            Check.range(floor + "mop row ", 0, row, "");
            Check.range(floor + "mop column ", 0, column, "");
            Check.range(floor + "close ", 0, column, "");
            Check.valid(floor + "close 0 " + column + ";open 0");
            Check.valid(floor + "close 0 " + column + ";open " + column);
            Check.range(floor + "cat 0;carry ", 0, tile, "");
            String spilled = floor + "spill " + tile + " 9;spill 0 9;mop ";
            Check.range(spilled, 0, tile, "");
            Check.error(floor + "rug row " + (row + 1), RANGE, floor.length() + 8);
            Check.error(floor + "rug column " + (column + 1), RANGE, floor.length() + 11);
            Check.error(floor + "open " + (column + 1), RANGE, floor.length() + 5);
        }
        Check.range("floor 8 6;rug row ", 0, 7, "");
        Check.range("floor 6 10;rug column ", 0, 9, "");
    }

    // ---- what settings and events mean

    private static void defaults() {
        Sentence.term("Without the corresponding setting, the moon shines 5 minutes on a row, the pace is 1, the drying time"
                + " is 10, the rest time is 0, the stamina is 0, the noise range is 0, the night is 15, the walker has the"
                + " remembered column 0 and faces right, there is no cat, all curtains are open, and there are no draughts,"
                + " clouds and rugs.");
        MoonlitFloor floor = Check.floor("floor 8 10");
        Check.due("night", floor.night(), 15);
        Check.due("pace", floor.pace(), 1);
        Check.due("walkerTile", floor.walkerTile(), 0);
        Check.due("facesRight", floor.facesRight(), true);
        Check.due("catTile", floor.catTile(), -1);
        for (int column = 0; column < 10; column++) {
            Check.due("isCurtainClosed " + column, floor.isCurtainClosed(column), false);
            Check.due("draughtPeriod " + column, floor.draughtPeriod(column), 0);
        }
        for (int tile = 0; tile < 80; tile++) {
            Check.due("hasRug " + tile, floor.hasRug(tile), false);
        }
        for (int minute = 0; minute < 40; minute++) {
            Check.due("moonRow in minute " + minute, floor.moonRow(), minute / 5);
            Check.due("moonShines in minute " + minute, floor.moonShines(), true);
            floor.advance(1);
        }
        Check.due("night after 40 minutes", floor.night(), 16);
        // 40 minutes of 9 steps and a turn
        Check.due("totalSteps without a pause", floor.totalSteps(), 36);
        MoonlitFloor cat = Check.floor("floor 2 2;cat 0 stay;bowl 0;advance 1");
        Check.due("restRemaining after a fall", cat.restRemaining(), 0);
        Check.due("fallCount", cat.fallCount(), 1);
        Check.due("walkerTile after a fall", cat.walkerTile(), 1);
        Check.due("spillTime after a minute", cat.spillTime(0), 9);
        Check.due("without noise the walker is not startled, but turns at the spill",
                Check.floor("floor 2 3;cat 0 stay;walker 1 left;bowl 0;advance 1").turnCount(), 1);
    }

    private static void lastSettingHolds() {
        Sentence.term("If another setting is repeated, the last one holds; for \"draught\" this applies to each column.");
        Check.due("light", Check.floor(LEAST + "light 20;light 1").minutesPerRow(), 1);
        Check.due("pace", Check.floor(LEAST + "pace 5;pace 2").pace(), 2);
        Check.due("night", Check.floor(LEAST + "night 999;night 0").night(), 0);
        String fall = "night 0;cat 0 stay;bowl 0;advance 1";
        Check.due("drying 1", Check.floor(LEAST + "drying 99;drying 1;" + fall).spillTime(0), 0);
        Check.due("drying 99", Check.floor(LEAST + "drying 1;drying 99;" + fall).spillTime(0), 98);
        Check.due("rest 0", Check.floor(LEAST + "rest 9;rest 0;cat 0 stay;bowl 0;advance 1").restRemaining(), 0);
        Check.due("rest 9", Check.floor(LEAST + "rest 0;rest 9;cat 0 stay;bowl 0;advance 1").restRemaining(), 8);
        Check.due("stamina 0", Check.floor(LEAST + "stamina 1;stamina 0;advance 1").restRemaining(), 0);
        Check.due("stamina 1", Check.floor(LEAST + "stamina 0;stamina 1;advance 1").restRemaining(), 1);
        String noise = ";walker 2 left;cat 0 stay;bowl 0;advance 1";
        Check.due("noise 1", Check.floor("floor 2 5;noise 20;noise 1" + noise).walkerTile(), 1);
        Check.due("noise 2", Check.floor("floor 2 5;noise 0;noise 2" + noise).walkerTile(), 3);
        MoonlitFloor walker = Check.floor("floor 2 5;walker 1 left;walker 4 right");
        Check.due("walkerTile", walker.walkerTile(), 4);
        Check.due("facesRight", walker.facesRight(), true);
        MoonlitFloor cat = Check.floor("floor 2 5;cat 9 left left;cat 0 right;advance 3");
        Check.due("catTile", cat.catTile(), 3);
        MoonlitFloor still = Check.floor("floor 2 5;cat 9 left left;cat 0;advance 3");
        Check.due("catTile of the cat without moves", still.catTile(), 0);
        MoonlitFloor draughts = Check.floor("floor 2 5;draught 0 2;draught 4 3;draught 0 60");
        Check.due("draughtPeriod 0", draughts.draughtPeriod(0), 60);
        Check.due("draughtPeriod 4", draughts.draughtPeriod(4), 3);
    }

    private static void afterTheLastSetting() {
        Sentence.term("After the last setting, the minute is 0, the walker is off the floor, and the walker is relocated as"
                + " section 3 describes.");
        Check.due("minute", Check.floor("floor 2 10;walker 9 left").minute(), 0);
        Check.due("the last column", Check.floor("floor 2 10;walker 9 left").walkerTile(), 9);
        Check.due("all but one closed", Check.floor("floor 2 3;walker 2 left;curtain 1 2").walkerTile(), 0);
        Check.due("all closed", Check.floor("floor 2 3;curtain 0 1 2").walkerTile(), -1);
        Check.due("night 0", Check.floor("floor 2 3;night 0").walkerTile(), -1);
        Check.due("night 1", Check.floor("floor 2 3;night 1").walkerTile(), 0);
        Check.due("night 29", Check.floor("floor 2 3;night 29").walkerTile(), 0);
        Check.due("night 30", Check.floor("floor 2 3;night 30").walkerTile(), -1);
        Check.due("a cloud at 0", Check.floor("floor 2 3;cloud 0 0").walkerTile(), -1);
        Check.due("a cloud from 1 on", Check.floor("floor 2 3;cloud 1 159").walkerTile(), 0);
        Check.due("an event of the same minute comes later", Check.floor("floor 2 3;close 0 1 2").walkerTile(), 0);
    }

    private static void sleep() {
        Sentence.term("\"sleep\" simulates minutes until the current night has ended.");
        int[] minutes = {0, 1, 2, 3, 4};
        int[] nights = {16, 16, 16, 16, 17};
        for (int i = 0; i < minutes.length; i++) {
            String before = minutes[i] == 0 ? "" : "advance " + minutes[i] + ";";
            MoonlitFloor floor = Check.floor("floor 2 2;light 2;" + before + "sleep");
            Check.due("night after " + minutes[i] + " minutes and a sleep", floor.night(), nights[i]);
            Check.due("minute", floor.minute(), 0);
        }
        MoonlitFloor longest = Check.floor("floor 8 2;light 20;sleep");
        Check.due("night after the longest sleep", longest.night(), 16);
        // a step and a turn by turns, 160 minutes long
        Check.due("totalSteps of the longest sleep", longest.totalSteps(), 80);
        MoonlitFloor shortest = Check.floor("floor 8 2;light 20;advance 159;sleep");
        Check.due("night after the shortest sleep", shortest.night(), 16);
        Check.due("minute after the shortest sleep", shortest.minute(), 0);
    }

    private static void paceBeforeEvents() {
        Sentence.term("\"pace\" is a setting as long as there was no event before it.");
        Check.valid(LEAST + "pace 2;light 3;pace 4;night 5;turn;pace 1");
        Check.error(LEAST + "turn;pace 2;light 3", SYNTAX, 22);
        Check.error(LEAST + "pace 2;turn;light 3", SYNTAX, 22);
        Check.error(LEAST + "repeat 1(pace 2);light 3", SYNTAX, 27);
        Check.error(LEAST + "repeat 1(pace 2;light 3)", SYNTAX, 26);
    }

    private static void carriedCat() {
        Sentence.term("\"carry\" puts the cat on a tile; its route goes on with the same next move.");
        // the moves are right, down and left, and then right again
        int[] fromCorner = {1, 4, 0, 1};
        int[] fromInside = {7, 10, 5, 7};
        for (int minutes = 0; minutes < 4; minutes++) {
            String setup = "floor 3 4;night 0;cat 11 right down left" + (minutes == 0 ? "" : ";advance " + minutes);
            Check.due("carry 0 after " + minutes, Check.floor(setup + ";carry 0;advance 1").catTile(), fromCorner[minutes]);
            Check.due("carry 6 after " + minutes, Check.floor(setup + ";carry 6;advance 1").catTile(), fromInside[minutes]);
        }
        MoonlitFloor bowl = Check.floor("floor 3 4;night 0;cat 0 right;bowl 5;carry 5");
        Check.due("a bowl where it is carried", bowl.hasBowl(5), true);
        Check.valid("floor 3 4;night 0;cat 0 right;spill 5 9;carry 5");
    }

    private static String rugsOf(MoonlitFloor floor, boolean bowls) {
        StringBuilder text = new StringBuilder();
        for (int tile = 0; tile < floor.rows() * floor.columns(); tile++) {
            text.append(bowls ? floor.hasBowl(tile) ? 'o' : '.' : floor.hasRug(tile) ? 'r' : '.');
        }
        return text.toString();
    }

    private static void rowsAndColumns() {
        Sentence.term("The item \"row\" means the tiles of a row from left to right, and \"column\" means the tiles of a column"
                + " from top to bottom.");
        Check.due("row 0", rugsOf(Check.floor("floor 3 4;bowl row 0"), true), "oooo........");
        Check.due("row 2", rugsOf(Check.floor("floor 3 4;bowl row 2"), true), "........oooo");
        Check.due("column 0", rugsOf(Check.floor("floor 3 4;bowl column 0"), true), "o...o...o...");
        Check.due("column 3", rugsOf(Check.floor("floor 3 4;bowl column 3"), true), "...o...o...o");
        Check.due("rug row 2", rugsOf(Check.floor("floor 3 4;rug row 2"), false), "........rrrr");
        Check.due("rug column 3", rugsOf(Check.floor("floor 3 4;rug column 3"), false), "...r...r...r");
        MoonlitFloor spills = Check.floor("floor 2 3;spill 0 9;spill 2 9;spill 3 9;spill 5 9;mop row 1 column 2");
        Check.due("spillTime 0", spills.spillTime(0), 9);
        Check.due("spillCount after mop", spills.spillCount(), 1);
    }

    private static void skippedTiles() {
        Sentence.term("Of the tiles of a row or a column, \"bowl\" skips those that have a bowl or a spill, \"mop\" skips those"
                + " without a spill, and \"rug\" skips those that have a rug.");
        MoonlitFloor some = Check.floor("floor 2 3;bowl 0;spill 1 9;bowl row 0 column 1");
        Check.due("bowls", rugsOf(some, true), "o.o.o.");
        Check.due("spillTime 1", some.spillTime(1), 9);
        Check.valid("floor 2 2;bowl 0;spill 1 9;bowl row 0");
        Check.valid("floor 2 2;bowl row 0 row 0 column 0 column 0");
        Check.valid("floor 2 2;mop row 0 row 1 column 0 column 1");
        MoonlitFloor mopped = Check.floor("floor 2 3;spill 1 9;bowl 0;mop row 0 column 0");
        Check.due("spillCount", mopped.spillCount(), 0);
        Check.due("mop leaves a bowl", mopped.hasBowl(0), true);
        Check.due("rugs", rugsOf(Check.floor("floor 2 3;rug 1 row 0 column 1 row 0"), false), "rrr.r.");
    }

    private static void laterPasses() {
        Sentence.term("\"repeat\" lets the events in the brackets take place several times; its text is parsed again each time,"
                + " so that an error can occur in a later pass, at its token.");
        Check.valid(LEAST + "repeat 1(bowl 1)");
        Check.error(LEAST + "repeat 2(bowl 1)", CONFLICT, 24);
        Check.valid("floor 2 2;spill 3 3;repeat 1(advance 1;mop 3;spill 3 9)");
        Check.valid("floor 2 2;spill 3 3;repeat 3(advance 1;repeat 1(turn));bowl 3");
        // the spill has dried when the third pass wants to mop it
        Check.valid("floor 2 2;spill 3 9;repeat 2(mop 3;spill 3 2;advance 1)");
        Check.error("floor 2 2;spill 3 9;repeat 2(mop 3;spill 3 2;advance 2)", CONFLICT, 33);
        // 400 minutes in each of five passes
        Check.valid(LEAST + "repeat 5(advance 300;advance 100)");
        Check.error(LEAST + "repeat 5(advance 300;advance 101)", LIMIT, 39);
        Check.error(LEAST + "repeat 5(repeat 5(turn;close 1))", CONFLICT, 39);
    }

    // ---- errors

    private static void firstError() {
        Sentence.term("Parsing stops at the first token that has an error.");
        Check.error("floor 1 1", RANGE, 6);
        Check.error("floor 9 11;!", RANGE, 6);
        Check.error("floor 2 11;!", RANGE, 8);
        Check.error("floor 2 2;pace 6;pace 0", RANGE, 15);
        Check.error("floor 2 2;rug 4 4", RANGE, 14);
        Check.error("floor 2 2;cloud 160 1000", RANGE, 16);
        Check.error("floor 2 2;walker 2 up", RANGE, 17);
        Check.error("floor 2 2;bowl 1;spill 1 0", CONFLICT, 23);
        Check.error("floor 2 2;repeat 0 turn", RANGE, 17);
    }

    private static void smallestCode() {
        Sentence.term("If several errors apply to a token, the error with the smallest code is reported.");
        // not allowed here, and one too many
        Check.error("floor 2 2" + ";cloud 1 2".repeat(4) + ";turn;cloud 1 2", SYNTAX, 55);
        Check.error(LEAST + "repeat 1(repeat 1(repeat 1(turn repeat 1(turn))))", SYNTAX, 42);
        Check.error(LEAST + "repeat 4(advance 300;advance 200);turn sleep", SYNTAX, 49);
        Check.error(LEAST + "repeat 4(advance 300;advance 200);advance 1000", SYNTAX, 52);
        Check.error("floor 2 7;rug 0 1 2 3 4 5 0006", SYNTAX, 26);
        // out of range, and too many
        Check.error("floor 2 3;rug 0 1 2 3 4 5 6", RANGE, 26);
        Check.error("floor 2 7;rug 0 1 2 3 4 5 row 2", RANGE, 30);
        Check.error("floor 2 7;rug 0 1 2 3 4 5 column 7", RANGE, 33);
        Check.error(LEAST + "repeat 4(advance 300;advance 200);advance 301", RANGE, 52);
        // there already, and too many
        Check.error("floor 2 7;rug 0 1 2 3 4 5 0", CONFLICT, 26);
        // out of range, and without a cat
        Check.error("floor 2 2;carry 4", RANGE, 16);
        Check.error("floor 2 2;carry 3", CONFLICT, 16);
    }

    private static void syntaxErrors() {
        Sentence.term("the grammar does not allow the token here (a setting after an event is not allowed), or the setup ends"
                + " too early.");
        Check.valid(LEAST + "light 3;turn");
        Check.error(LEAST + "turn;light 3", SYNTAX, 15);
        Check.error(LEAST + "sleep;rug 1", SYNTAX, 16);
        Check.error(LEAST + "turn;floor 2 2", SYNTAX, 15);
        Check.error(LEAST + "repeat 1", SYNTAX, 18);
        Check.error(LEAST + "repeat 1(", SYNTAX, 19);
        Check.error(LEAST + "repeat 1()", SYNTAX, 19);
        Check.error(LEAST + "repeat 1(turn", SYNTAX, 23);
        Check.valid(LEAST + "repeat 1(turn)");
        Check.error(LEAST + "repeat 1(turn))", SYNTAX, 24);
        Check.error(LEAST + "repeat 1(turn);", SYNTAX, 25);
        Check.error(LEAST + "repeat 1(turn;)", SYNTAX, 24);
        Check.error(LEAST + "(turn)", SYNTAX, 10);
    }

    private static void conflictOfCurtains() {
        Sentence.term("CONFLICT_ERROR: the column of \"curtain\" whose curtain is closed already;");
        Check.valid("floor 2 3;curtain 1 0 2");
        Check.error("floor 2 3;curtain 1 0 2 0", CONFLICT, 24);
        Check.error("floor 2 3;curtain 0 0", CONFLICT, 20);
        Check.error("floor 2 3;curtain 2;curtain 1 2", CONFLICT, 30);
    }

    private static void conflictOfRugs() {
        Sentence.term("the tile of \"rug\" on which there is a rug already;");
        Check.valid("floor 2 3;rug 0 1 2");
        Check.error("floor 2 3;rug 0 0", CONFLICT, 16);
        Check.error("floor 2 3;rug 5;rug 4 5", CONFLICT, 22);
        Check.error("floor 2 3;rug column 2 5", CONFLICT, 23);
        Check.valid("floor 2 3;rug column 2 column 2 4");
    }

    private static void conflictOfBowlsAndSpills() {
        Sentence.term("the tile of \"bowl\" or \"spill\" on which there is a bowl or a spill already;");
        Check.valid("floor 2 3;bowl 0 1;spill 2 9;spill 5 9;bowl 4");
        Check.error("floor 2 3;bowl 0 0", CONFLICT, 17);
        Check.error("floor 2 3;bowl 5;spill 5 9", CONFLICT, 23);
        Check.error("floor 2 3;spill 5 9;bowl 5", CONFLICT, 25);
        Check.error("floor 2 3;spill 5 9;spill 5 9", CONFLICT, 26);
        Check.error("floor 2 3;bowl row 0 2", CONFLICT, 21);
        // the last minute of a spill, and the minute after it
        Check.error("floor 2 3;spill 5 2;advance 1;bowl 5", CONFLICT, 35);
        Check.valid("floor 2 3;spill 5 2;advance 2;bowl 5");
        Check.error("floor 2 3;spill 5 2;advance 1;spill 5 9", CONFLICT, 36);
        Check.valid("floor 2 3;spill 5 2;advance 2;spill 5 9");
        // the minute before the cat spills a bowl, and after it
        Check.error("floor 2 3;cat 5 stay;bowl 5;spill 5 9", CONFLICT, 34);
        Check.valid("floor 2 3;drying 1;cat 5 stay;bowl 5;advance 1;spill 5 9");
    }

    private static void conflictOfMop() {
        Sentence.term("the tile of \"mop\" without a spill (only tiles that are told by their index);");
        Check.error("floor 2 3;mop 0", CONFLICT, 14);
        Check.error("floor 2 3;bowl 0;mop 0", CONFLICT, 21);
        Check.valid("floor 2 3;spill 0 1;mop 0");
        Check.error("floor 2 3;spill 0 1;mop 0 0", CONFLICT, 26);
        Check.valid("floor 2 3;spill 5 2;advance 1;mop 5");
        Check.error("floor 2 3;spill 5 2;advance 2;mop 5", CONFLICT, 34);
        Check.valid("floor 2 3;spill 5 2;advance 2;mop row 1 column 2");
        Check.error("floor 2 3;spill 0 9;mop row 0 0", CONFLICT, 30);
    }

    private static void conflictOfOpenAndClose() {
        Sentence.term("the column of \"open\" whose curtain is open, and that of \"close\" whose curtain is closed;");
        Check.error("floor 2 3;open 0", CONFLICT, 15);
        Check.valid("floor 2 3;curtain 0;open 0");
        Check.error("floor 2 3;curtain 0;open 0 0", CONFLICT, 27);
        Check.valid("floor 2 3;close 0");
        Check.error("floor 2 3;close 0 0", CONFLICT, 18);
        Check.error("floor 2 3;curtain 2;close 2", CONFLICT, 26);
        // the draught stirs the curtain in minute 2
        Check.error("floor 2 3;draught 1 2;advance 1;open 1", CONFLICT, 37);
        Check.valid("floor 2 3;draught 1 2;advance 2;open 1");
        Check.valid("floor 2 3;draught 1 2;advance 1;close 1");
        Check.error("floor 2 3;draught 1 2;advance 2;close 1", CONFLICT, 38);
    }

    private static void conflictOfCarry() {
        Sentence.term("the tile of \"carry\" if there is no cat.");
        Check.error("floor 2 3;carry 0", CONFLICT, 16);
        Check.error("floor 2 3;carry 5", CONFLICT, 16);
        Check.valid("floor 2 3;cat 0;carry 5");
        Check.valid("floor 2 3;cat 5;carry 5");
    }

    private static void limitOfMoves() {
        Sentence.term("LIMIT_ERROR: the 31st move of a route;");
        for (String move : new String[] {" stay", " up", " down", " left", " right"}) {
            String thirty = "floor 2 3;cat 1" + move.repeat(30);
            Check.valid(thirty);
            Check.error(thirty + move, LIMIT, thirty.length() + 1);
            Check.error(thirty + " x", SYNTAX, thirty.length() + 1);
            Check.valid(thirty + ";cat 5" + move.repeat(30));
        }
        String full = "floor 2 3;cat 1" + " up".repeat(30) + ";cat 5" + " up".repeat(30);
        Check.error(full + " left", LIMIT, full.length() + 1);
    }

    private static void limitOfClouds() {
        Sentence.term("the word \"cloud\" of a 5th cloud;");
        String four = "floor 2 2;cloud 0 0;cloud 159 159;cloud 0 159;cloud 7 9";
        Check.valid(four);
        Check.valid(four + ";turn");
        Check.error(four + ";cloud 7 9", LIMIT, four.length() + 1);
        Check.error(four + ";cloud 160 0", LIMIT, four.length() + 1);
        Check.error(four + ";cloud", LIMIT, four.length() + 1);
    }

    private static void limitOfRugs() {
        Sentence.term("the tile of a 7th rug, or the row or column with which there would be more than 6 rugs;");
        Check.valid("floor 2 4;rug 0 1 2 3 4 5");
        Check.error("floor 2 4;rug 0 1 2 3 4 5 6", LIMIT, 26);
        Check.valid("floor 2 4;rug 0 1 2;rug 3 4 5");
        Check.error("floor 2 4;rug 0 1 2;rug 3 4 5;rug 7", LIMIT, 34);
        Check.error("floor 2 4;rug row 0 5 6 7", LIMIT, 24);
    }

    private static void limitOfRugsInLines() {
        Sentence.term("the row or column with which there would be more than 6 rugs;");
        Check.valid("floor 2 6;rug row 1");
        Check.error("floor 2 7;rug row 1", LIMIT, 18);
        Check.valid("floor 6 2;rug column 1");
        Check.error("floor 7 2;rug column 1", LIMIT, 21);
        Check.valid("floor 2 6;rug row 1 row 1");
        Check.error("floor 2 6;rug row 1 row 0", LIMIT, 24);
        Check.error("floor 2 6;rug row 1 column 0", LIMIT, 27);
        Check.valid("floor 3 4;rug row 0 column 0");
        Check.error("floor 3 4;rug row 0 column 0 column 1", LIMIT, 36);
        // one rug of the seven lies there already
        Check.valid("floor 2 6;rug 3 row 0");
        Check.error("floor 2 6;rug 6 row 0", LIMIT, 20);
    }

    private static void limitOfRepeats() {
        Sentence.term("the word \"repeat\" that is in the brackets of three others;");
        Check.valid(LEAST + "repeat 1(repeat 1(repeat 1(turn)))");
        Check.error(LEAST + "repeat 1(repeat 1(repeat 1(repeat 1(turn))))", LIMIT, 37);
        Check.error(LEAST + "repeat 1(repeat 1(repeat 1(turn;repeat 6", LIMIT, 42);
        Check.valid(LEAST + "repeat 1(repeat 1(repeat 1(turn);repeat 1(turn));repeat 1(repeat 1(turn)))");
        Check.error(LEAST + "repeat 1(repeat 1(repeat 1(turn);repeat 1(repeat 1(turn))))", LIMIT, 52);
        Check.valid(LEAST + "repeat 1(turn)" + ";repeat 1(turn)".repeat(20));
        Check.valid(LEAST + "repeat 5(repeat 5(repeat 5(turn)))");
    }

    private static void limitOfMinutes() {
        Sentence.term("the minutes of \"advance\", or the word \"sleep\", with which all events would simulate more than 2000"
                + " minutes.");
        // 1999 minutes, and with nights of 2 minutes the last of a night
        String before = "floor 2 2;light 1" + ";advance 300".repeat(6) + ";advance 199";
        Check.valid(before + ";advance 1");
        Check.error(before + ";advance 2", LIMIT, before.length() + 9);
        Check.valid(before + ";sleep");
        Check.error(before + ";sleep;sleep", LIMIT, before.length() + 7);
        Check.error(before + ";sleep;advance 1", LIMIT, before.length() + 15);
        Check.error(before + ";advance 1;sleep", LIMIT, before.length() + 11);
        // 1996 minutes, which are 499 nights of 4
        String other = "floor 2 2;light 2" + ";advance 300".repeat(6) + ";advance 196";
        Check.valid(other + ";sleep");
        Check.error(other + ";advance 1;sleep;advance 1", LIMIT, other.length() + 25);
        Check.error("floor 2 2;light 3" + ";advance 300".repeat(6) + ";advance 199;sleep", LIMIT, 102);
        Check.valid("floor 2 2;light 20" + ";sleep".repeat(50));
        Check.error("floor 2 2;light 20" + ";sleep".repeat(51), LIMIT, 319);
        Check.valid(LEAST + "repeat 4(advance 300;advance 200)");
        Check.error(LEAST + "repeat 4(advance 300;advance 200);advance 1", LIMIT, 52);
    }
}
