/** The bounds that promises 7 to 55 name: of what is answered, and of what is taken as an argument. */
final class AnswerBoundsTest {
    /** A step and a turn by turns, for 40 minutes in a night: minute after minute the same in every row. */
    private static final String SHUTTLE = "floor 2 2;light 20";
    private static final String LARGEST = "floor 8 10;light 20";

    private AnswerBoundsTest() {
    }

    public static void main(String[] args) {
        sizes();
        nightAndMinute();
        brightness();
        moonRow();
        moonShines();
        isLit();
        isCurtainClosed();
        draughtPeriod();
        minutesUntilLit();
        minutesUntilLitInAColumnAndARow();
        nightsUntilFullMoon();
        pace();
        stepsPerMinute();
        walkerTile();
        facesRight();
        restRemaining();
        stepsSincePause();
        totalSteps();
        stepsTonight();
        turnCount();
        fallCount();
        blockReason();
        wear();
        catTile();
        hasRug();
        slideCount();
        hasBowl();
        spillTime();
        spillCount();
        recordCount();
        recordNightAndSteps();
        rankOf();
        rankOfTheEleventh();
        imbalance();
        averageWear();
        litShare();
        stepsAfter();
        walkerTileAfter();
        spillTimeAfter();
        minutesUntilStep();
        minutesUntilStepAtTheBound();
        minutesUntilFall();
        minutesUntilFallAtTheBound();
        stepsAtPace();
        bestPace();
        bestCurtain();
        writeRow();
        signsOfARow();
        writeRecords();
        outputByte();
        Check.end();
    }

    // ---- floor and moonlight

    private static void sizes() {
        Sentence.promise(7, "Returns the number of rows, 2 to 8.");
        Check.due("the fewest rows", Check.floor("floor 2 10").rows(), 2);
        Check.due("the most rows", Check.floor("floor 8 2").rows(), 8);
        Check.error("floor 1 10", MoonlitFloor.RANGE_ERROR, 6);
        Check.error("floor 9 2", MoonlitFloor.RANGE_ERROR, 6);
        Sentence.promise(8, "Returns the number of columns, 2 to 10.");
        Check.due("the fewest columns", Check.floor("floor 8 2").columns(), 2);
        Check.due("the most columns", Check.floor("floor 2 10").columns(), 10);
        Check.error("floor 8 1", MoonlitFloor.RANGE_ERROR, 8);
        Check.error("floor 2 11", MoonlitFloor.RANGE_ERROR, 8);
        Sentence.promise(9, "Returns the number of minutes, 1 to 20.");
        Check.due("the fewest minutes", Check.floor("floor 2 2;light 1").minutesPerRow(), 1);
        Check.due("the most minutes", Check.floor("floor 2 2;light 20").minutesPerRow(), 20);
        Check.error("floor 2 2;light 0", MoonlitFloor.RANGE_ERROR, 16);
        Check.error("floor 2 2;light 21", MoonlitFloor.RANGE_ERROR, 16);
    }

    private static void nightAndMinute() {
        Sentence.promise(10, "Returns the number, 0 or more.");
        Check.due("the first night", Check.floor("floor 2 2;night 0").night(), 0);
        Check.due("the night after it", Check.floor("floor 2 2;night 0;sleep").night(), 1);
        Check.due("the last night of a setting", Check.floor("floor 2 2;night 999").night(), 999);
        Check.due("the night after it", Check.floor("floor 2 2;night 999;sleep").night(), 1000);
        Sentence.promise(11, "Returns the minute, from 0 on.");
        MoonlitFloor floor = Check.floor("floor 2 2;light 1");
        int[] due = {0, 1, 0, 1, 0};
        for (int minute : due) {
            Check.due("minute", floor.minute(), minute);
            floor.advance(1);
        }
        Check.due("the last minute of the longest night", Check.floor("floor 8 2;light 20;advance 159").minute(), 159);
        Check.due("the minute after it", Check.floor("floor 8 2;light 20;advance 160").minute(), 0);
    }

    private static void brightness() {
        Sentence.promise(12, "Returns the brightness, 0 to 15.");
        int[] nights = {0, 1, 14, 15, 16, 29, 30, 45, 975, 990};
        int[] due = {0, 1, 14, 15, 14, 1, 0, 15, 15, 0};
        for (int i = 0; i < nights.length; i++) {
            Check.due("brightness of night " + nights[i], Check.floor("floor 2 2;night " + nights[i]).brightness(), due[i]);
        }
        Check.due("brightness by cloud", Check.floor("floor 2 2;cloud 0 159").brightness(), 15);
    }

    private static void moonRow() {
        Sentence.promise(13, "Returns the row, from 0 on.");
        MoonlitFloor floor = Check.floor("floor 3 2;light 2;night 30;cloud 0 1");
        int[] due = {0, 0, 1, 1, 2, 2, 0};
        for (int minute = 0; minute < due.length; minute++) {
            Check.due("moonRow of a dark night after " + minute, floor.moonRow(), due[minute]);
            floor.advance(1);
        }
    }

    private static void moonShines() {
        Sentence.promise(14, "Returns true if the brightness is greater than 0 and no cloud covers the moon.");
        Check.due("brightness 0", Check.floor("floor 2 2;night 0").moonShines(), false);
        Check.due("brightness 1", Check.floor("floor 2 2;night 1").moonShines(), true);
        Check.due("brightness 15", Check.floor("floor 2 2;night 15").moonShines(), true);
        Check.due("brightness 15 by cloud", Check.floor("floor 2 2;night 15;cloud 0 0").moonShines(), false);
        Check.due("off the floor", Check.floor("floor 2 2;curtain 0 1").moonShines(), true);
    }

    private static void isLit() {
        Sentence.promise(15, "Throws IndexOutOfBoundsException if there is no such tile");
        Check.indexes("isLit of 4", 4, tile -> Check.floor("floor 2 2").isLit(tile));
        Check.indexes("isLit of 12", 12, tile -> Check.floor("floor 3 4").isLit(tile));
        Check.indexes("isLit of 80", 80, tile -> Check.floor("floor 8 10;night 0").isLit(tile));
        Sentence.promise(15, "Returns true if it is lit.");
        Check.due("the first tile", Check.floor("floor 3 4").isLit(0), true);
        Check.due("the last tile", Check.floor("floor 3 4").isLit(11), false);
        Check.due("the last tile in its minute", Check.floor("floor 3 4;advance 14").isLit(11), true);
    }

    private static void isCurtainClosed() {
        Sentence.promise(16, "Throws IndexOutOfBoundsException if there is no such column");
        Check.indexes("isCurtainClosed of 2", 2, column -> Check.floor("floor 8 2").isCurtainClosed(column));
        Check.indexes("isCurtainClosed of 4", 4, column -> Check.floor("floor 3 4").isCurtainClosed(column));
        Check.indexes("isCurtainClosed of 10", 10, column -> Check.floor("floor 2 10").isCurtainClosed(column));
        Sentence.promise(16, "Returns true if it is closed.");
        MoonlitFloor floor = Check.floor("floor 2 10;curtain 0 9");
        for (int column = 0; column < 10; column++) {
            Check.due("isCurtainClosed " + column, floor.isCurtainClosed(column), column == 0 || column == 9);
        }
    }

    private static void draughtPeriod() {
        Sentence.promise(17, "Throws IndexOutOfBoundsException if there is no such column");
        Check.indexes("draughtPeriod of 2", 2, column -> Check.floor("floor 8 2").draughtPeriod(column));
        Check.indexes("draughtPeriod of 4", 4, column -> Check.floor("floor 3 4;draught 3 2").draughtPeriod(column));
        Check.indexes("draughtPeriod of 10", 10, column -> Check.floor("floor 2 10").draughtPeriod(column));
        Sentence.promise(17, "Returns the period in minutes; 0 if the column has no draught.");
        MoonlitFloor floor = Check.floor("floor 2 10;draught 0 60;draught 9 2");
        int[] due = {60, 0, 0, 0, 0, 0, 0, 0, 0, 2};
        for (int column = 0; column < 10; column++) {
            Check.due("draughtPeriod " + column, floor.draughtPeriod(column), due[column]);
        }
    }

    private static void minutesUntilLit() {
        Sentence.promise(18, "Returns 0 if the tile is lit now; NONE if it is not lit within 500 minutes.");
        Check.due("a tile that is lit now", Check.floor("floor 2 2;light 1").minutesUntilLit(1), 0);
        Check.due("a tile that is lit in a minute", Check.floor("floor 2 2;light 1").minutesUntilLit(2), 1);
        Check.due("a tile that was lit", Check.floor("floor 2 2;light 1;advance 1").minutesUntilLit(0), 1);
        // column 0 is closed to minute 59, in night 30 too, which is dark, and in night 31; but not in night 32
        String draughty = "floor 8 2;light 20;night 29;curtain 0;draught 0 60";
        Check.due("500 minutes", Check.floor(draughty).minutesUntilLit(2), 500);
        Check.due("499 minutes", Check.floor(draughty + ";advance 1").minutesUntilLit(2), 499);
        // a cloud in the first minute of that row makes it 501
        Check.due("501 minutes", Check.floor(draughty + ";cloud 20 20").minutesUntilLit(2), -1);
        Check.due("501 minutes, one later", Check.floor(draughty + ";cloud 20 20;advance 1").minutesUntilLit(2), 500);
        Check.due("never", Check.floor("floor 2 2;curtain 1").minutesUntilLit(1), -1);
    }

    private static void minutesUntilLitInAColumnAndARow() {
        Sentence.promise(18, "Throws IndexOutOfBoundsException if there is no such tile");
        Check.indexes("minutesUntilLit of 4", 4, tile -> Check.floor("floor 2 2").minutesUntilLit(tile));
        Check.indexes("minutesUntilLit of 12", 12, tile -> Check.floor("floor 3 4").minutesUntilLit(tile));
        Check.indexes("minutesUntilLit of 80", 80, tile -> Check.floor(LARGEST).minutesUntilLit(tile));
        int[] tiles = {0, 9, 10, 19, 70, 79};
        int[] due = {0, 0, 20, 20, 140, 140};
        for (int i = 0; i < tiles.length; i++) {
            Check.due("minutesUntilLit " + tiles[i], Check.floor(LARGEST).minutesUntilLit(tiles[i]), due[i]);
        }
    }

    private static void nightsUntilFullMoon() {
        Sentence.promise(19, "Returns the number of nights; 0 if the brightness is 15 in the current night.");
        int[] nights = {0, 1, 14, 15, 16, 17, 29, 30, 44, 45, 46, 999};
        int[] due = {15, 14, 1, 0, 29, 28, 16, 15, 1, 0, 29, 6};
        for (int i = 0; i < nights.length; i++) {
            Check.due("nightsUntilFullMoon in night " + nights[i],
                    Check.floor("floor 2 2;night " + nights[i]).nightsUntilFullMoon(), due[i]);
        }
        Check.due("in the last minute of night 15", Check.floor("floor 2 2;light 1;advance 1").nightsUntilFullMoon(), 0);
        Check.due("in the first minute of night 16", Check.floor("floor 2 2;light 1;advance 2").nightsUntilFullMoon(), 29);
    }

    // ---- walker

    private static void pace() {
        Sentence.promise(20, "Returns the pace, 1 to 5.");
        for (int pace = 1; pace <= 5; pace++) {
            Check.due("pace", Check.floor("floor 2 2;pace " + pace).pace(), pace);
        }
        Check.due("pace in a dark night", Check.floor("floor 2 2;night 0;pace 5").pace(), 5);
    }

    private static void stepsPerMinute() {
        Sentence.promise(21, "Returns the number of steps; 0 if the moon does not shine.");
        Check.due("brightness 0", Check.floor("floor 2 2;night 0;pace 5").stepsPerMinute(), 0);
        Check.due("brightness 1", Check.floor("floor 2 2;night 1;pace 5").stepsPerMinute(), 1);
        Check.due("brightness 3", Check.floor("floor 2 2;night 3;pace 5").stepsPerMinute(), 1);
        Check.due("brightness 4", Check.floor("floor 2 2;night 4;pace 5").stepsPerMinute(), 2);
        Check.due("brightness 15", Check.floor("floor 2 2;pace 5").stepsPerMinute(), 4);
        Check.due("pace 4", Check.floor("floor 2 2;pace 4").stepsPerMinute(), 4);
        Check.due("pace 3", Check.floor("floor 2 2;pace 3").stepsPerMinute(), 3);
        Check.due("before a cloud", Check.floor("floor 2 2;pace 3;cloud 1 1").stepsPerMinute(), 3);
        Check.due("by cloud", Check.floor("floor 2 2;pace 3;cloud 1 1;advance 1").stepsPerMinute(), 0);
        Check.due("after a cloud", Check.floor("floor 2 2;pace 3;cloud 1 1;advance 2").stepsPerMinute(), 3);
        Check.due("of a resting walker", Check.floor("floor 2 3;pace 3;stamina 1;advance 1").stepsPerMinute(), 3);
    }

    private static void walkerTile() {
        Sentence.promise(22, "Returns index of the tile; NONE if the walker is off the floor.");
        Check.due("the first tile", Check.floor("floor 8 10").walkerTile(), 0);
        Check.due("the last tile of a row", Check.floor("floor 8 10;walker 9 right").walkerTile(), 9);
        Check.due("the last tile", Check.floor("floor 8 10;light 1;cloud 0 6;walker 9 right;advance 7").walkerTile(), 79);
        Check.due("off the floor", Check.floor("floor 8 10;cloud 0 0").walkerTile(), -1);
    }

    private static void facesRight() {
        Sentence.promise(23, "Returns true for right, false for left.");
        Check.due("right", Check.floor("floor 2 2;walker 0 right").facesRight(), true);
        Check.due("left", Check.floor("floor 2 2;walker 0 left").facesRight(), false);
        Check.due("left, off the floor", Check.floor("floor 2 2;night 0;walker 0 left").facesRight(), false);
        Check.due("after a turn", Check.floor("floor 2 2;walker 0 left;advance 1").facesRight(), true);
    }

    private static void restRemaining() {
        Sentence.promise(24, "Returns the number of minutes, 0 to 9.");
        Check.due("at first", Check.floor("floor 2 3").restRemaining(), 0);
        Check.due("in a pause", Check.floor("floor 2 3;stamina 1;advance 1").restRemaining(), 1);
        Check.due("after a pause", Check.floor("floor 2 3;stamina 1;advance 2").restRemaining(), 0);
        String fall = "floor 2 3;rest 9;cat 0 stay;bowl 0;advance ";
        Check.due("in the longest rest", Check.floor(fall + 1).restRemaining(), 8);
        Check.due("in the last minute of the rest", Check.floor(fall + 8).restRemaining(), 1);
        Check.due("after the rest", Check.floor(fall + 9).restRemaining(), 0);
        Check.due("a minute later", Check.floor(fall + 10).restRemaining(), 0);
    }

    private static void stepsSincePause() {
        Sentence.promise(25, "Returns the number of steps.");
        int[] due = {0, 1, 2, 0, 0, 1};
        for (int minutes = 0; minutes < due.length; minutes++) {
            String passed = minutes == 0 ? "" : ";advance " + minutes;
            Check.due("stepsSincePause after " + minutes,
                    Check.floor("floor 2 10;light 20;stamina 3" + passed).stepsSincePause(), due[minutes]);
        }
        Check.due("over the end of a night", Check.floor("floor 2 10;light 1;advance 3").stepsSincePause(), 3);
        Check.due("after a turn", Check.floor("floor 2 2;light 20;advance 2").stepsSincePause(), 1);
    }

    private static void totalSteps() {
        Sentence.promise(26, "Returns the number of steps; turns do not count.");
        int[] due = {0, 1, 1, 2, 2, 3};
        for (int minutes = 0; minutes < due.length; minutes++) {
            String passed = minutes == 0 ? "" : ";advance " + minutes;
            Check.due("totalSteps after " + minutes, Check.floor(SHUTTLE + passed).totalSteps(), due[minutes]);
        }
        Check.due("after 2000 minutes of a setup",
                Check.floor(SHUTTLE + ";night 1;repeat 4(advance 300;advance 200)").totalSteps(), 980);
    }

    private static void stepsTonight() {
        Sentence.promise(27, "Returns the number of steps.");
        int[] due = {0, 1, 1, 2, 0, 1};
        for (int minutes = 0; minutes < due.length; minutes++) {
            String passed = minutes == 0 ? "" : ";advance " + minutes;
            Check.due("stepsTonight after " + minutes, Check.floor("floor 2 2;light 2" + passed).stepsTonight(), due[minutes]);
        }
    }

    private static void turnCount() {
        Sentence.promise(28, "Returns the number of turns; calls of turnWalker() do not count.");
        MoonlitFloor floor = Check.floor(SHUTTLE + ";turn");
        Check.due("after the event", floor.turnCount(), 0);
        floor.turnWalker();
        Check.due("after turnWalker", floor.turnCount(), 0);
        floor.advance(1);
        Check.due("after a step", floor.turnCount(), 0);
        floor.advance(1);
        Check.due("after a turn", floor.turnCount(), 1);
        floor.turnWalker();
        Check.due("after a turn and turnWalker", floor.turnCount(), 1);
    }

    private static void fallCount() {
        Sentence.promise(29, "Returns the number of falls.");
        MoonlitFloor floor = Check.floor("floor 2 3;light 20;drying 1;rest 9;cat 0 stay");
        for (int falls = 0; falls < 3; falls++) {
            Check.due("fallCount", floor.fallCount(), falls);
            floor.placeBowl(0);
            Check.due("fallCount before the move", floor.fallCount(), falls);
            floor.advance(1);
        }
        floor.advance(1);
        Check.due("fallCount without a bowl", floor.fallCount(), 3);
    }

    private static void blockReason() {
        Sentence.promise(30, "Returns 0 if it would lead to another tile; otherwise the first of these reasons that applies: 1 the"
                + " walker is off the floor; 2 the moon does not shine; 3 the walker rests; 4 the next tile would be beyond the"
                + " edge of the floor; 5 the curtain of the next column is closed; 6 there is a spill on the next tile.");
        String[] setups = {"floor 2 3", "floor 2 3;walker 1 right", "floor 2 3;walker 1 left",
            "floor 2 3;curtain 0 1 2", "floor 2 3;night 0", "floor 2 3;cloud 0 0",
            "floor 2 3;stamina 1;walker 1 right;cloud 1 1;advance 1", "floor 2 3;cloud 1 1;spill 1 9;advance 1",
            "floor 2 3;stamina 1;walker 1 right;advance 1", "floor 2 4;stamina 1;close 2;spill 2 9;advance 1",
            "floor 2 3;walker 2 right", "floor 2 3;walker 0 left", "floor 2 3;walker 2 right;spill 3 9",
            "floor 2 3;walker 1 right;close 2", "floor 2 3;walker 1 left;close 0;spill 0 9", "floor 2 3;close 0",
            "floor 2 3;spill 1 1", "floor 2 3;walker 1 left;spill 0 9", "floor 2 3;spill 0 9", "floor 2 3;spill 2 9",
            "floor 2 3;spill 4 9"};
        int[] due = {0, 0, 0, 1, 1, 1, 2, 2, 3, 3, 4, 4, 4, 5, 5, 0, 6, 6, 0, 0, 0};
        for (int i = 0; i < setups.length; i++) {
            Check.due("blockReason of " + setups[i], Check.floor(setups[i]).blockReason(), due[i]);
        }
        Check.due("a bowl and a rug", Check.floor("floor 2 3;rug 1;bowl 1").blockReason(), 0);
        Check.due("a cat", Check.floor("floor 2 3;cat 1").blockReason(), 0);
        // in row 1 the tile before the first is the last of row 0
        Check.due("the edge in row 1",
                Check.floor("floor 2 3;light 2;cloud 0 1;walker 0 left;advance 2").blockReason(), 4);
        Check.due("the last tile of the floor",
                Check.floor("floor 2 3;light 2;cloud 0 1;walker 2 right;advance 2").blockReason(), 4);
    }

    private static void wear() {
        Sentence.promise(31, "Throws IndexOutOfBoundsException if there is no such tile");
        Check.indexes("wear of 4", 4, tile -> Check.floor("floor 2 2").wear(tile));
        Check.indexes("wear of 12", 12, tile -> Check.floor("floor 3 4").wear(tile));
        Check.indexes("wear of 80", 80, tile -> Check.floor(LARGEST).wear(tile));
        Sentence.promise(31, "Returns the number of steps.");
        MoonlitFloor first = Check.floor("floor 2 2;light 20;walker 1 left;advance 1");
        Check.due("the first tile", first.wear(0), 1);
        MoonlitFloor last = Check.floor("floor 8 10;light 2;cloud 0 13;walker 8 right;advance 15");
        Check.due("the last tile", last.wear(79), 1);
        Check.due("the tile before it", last.wear(78), 0);
        Check.due("the first tile", last.wear(0), 0);
    }

    // ---- cat, bowls and spills

    private static void catTile() {
        Sentence.promise(32, "Returns index of the tile; NONE if there is no cat.");
        Check.due("no cat", Check.floor("floor 8 10").catTile(), -1);
        Check.due("the first tile", Check.floor("floor 8 10;cat 0").catTile(), 0);
        Check.due("the last tile", Check.floor("floor 8 10;cat 79").catTile(), 79);
        Check.due("carried to the last tile", Check.floor("floor 8 10;cat 0;carry 79").catTile(), 79);
        Check.due("carried to the first tile", Check.floor("floor 8 10;cat 79;carry 0").catTile(), 0);
    }

    private static void hasRug() {
        Sentence.promise(33, "Throws IndexOutOfBoundsException if there is no such tile");
        Check.indexes("hasRug of 4", 4, tile -> Check.floor("floor 2 2").hasRug(tile));
        Check.indexes("hasRug of 12", 12, tile -> Check.floor("floor 3 4").hasRug(tile));
        Check.indexes("hasRug of 80", 80, tile -> Check.floor(LARGEST).hasRug(tile));
        Sentence.promise(33, "Returns true if there is one.");
        MoonlitFloor floor = Check.floor("floor 8 10;rug 0 79");
        Check.due("the first tile", floor.hasRug(0), true);
        Check.due("the tile beside it", floor.hasRug(1), false);
        Check.due("the tile before the last", floor.hasRug(78), false);
        Check.due("the last tile", floor.hasRug(79), true);
    }

    private static void slideCount() {
        Sentence.promise(34, "Returns the number of times.");
        int[] due = {0, 1, 2, 2, 2};
        for (int minutes = 0; minutes < due.length; minutes++) {
            String passed = minutes == 0 ? "" : ";advance " + minutes;
            Check.due("slideCount after " + minutes,
                    Check.floor("floor 2 4;light 20;rug 1" + passed).slideCount(), due[minutes]);
        }
    }

    private static void hasBowl() {
        Sentence.promise(35, "Throws IndexOutOfBoundsException if there is no such tile");
        Check.indexes("hasBowl of 4", 4, tile -> Check.floor("floor 2 2").hasBowl(tile));
        Check.indexes("hasBowl of 12", 12, tile -> Check.floor("floor 3 4").hasBowl(tile));
        Check.indexes("hasBowl of 80", 80, tile -> Check.floor(LARGEST).hasBowl(tile));
        Sentence.promise(35, "Returns true if there is one.");
        MoonlitFloor floor = Check.floor("floor 8 10;bowl 0 79");
        Check.due("the first tile", floor.hasBowl(0), true);
        Check.due("the tile beside it", floor.hasBowl(1), false);
        Check.due("the tile before the last", floor.hasBowl(78), false);
        Check.due("the last tile", floor.hasBowl(79), true);
    }

    private static void spillTime() {
        Sentence.promise(36, "Throws IndexOutOfBoundsException if there is no such tile");
        Check.indexes("spillTime of 4", 4, tile -> Check.floor("floor 2 2").spillTime(tile));
        Check.indexes("spillTime of 12", 12, tile -> Check.floor("floor 3 4").spillTime(tile));
        Check.indexes("spillTime of 80", 80, tile -> Check.floor(LARGEST).spillTime(tile));
        Sentence.promise(36, "Returns the number of minutes; 0 if there is no spill.");
        MoonlitFloor floor = Check.floor("floor 8 10;night 0;spill 0 99;spill 79 1;bowl 78");
        Check.due("the first tile", floor.spillTime(0), 99);
        Check.due("the last tile", floor.spillTime(79), 1);
        Check.due("a bowl", floor.spillTime(78), 0);
        floor.advance(1);
        Check.due("the first tile, a minute later", floor.spillTime(0), 98);
        Check.due("the last tile, a minute later", floor.spillTime(79), 0);
        floor.advance(1);
        Check.due("the last tile, two minutes later", floor.spillTime(79), 0);
    }

    private static void spillCount() {
        Sentence.promise(37, "Returns the number of tiles.");
        Check.due("none", Check.floor("floor 2 2;bowl row 0").spillCount(), 0);
        Check.due("one", Check.floor("floor 8 10;spill 79 1").spillCount(), 1);
        Check.due("all", Check.floor("floor 2 2;spill 0 1;spill 1 2;spill 2 3;spill 3 99").spillCount(), 4);
        Check.due("all but one", Check.floor("floor 2 2;spill 0 1;spill 1 2;spill 2 3;spill 3 99;advance 1").spillCount(), 3);
        Check.due("the last one", Check.floor("floor 2 2;spill 0 1;spill 1 2;spill 2 3;spill 3 99;advance 98").spillCount(), 1);
        Check.due("none again", Check.floor("floor 2 2;spill 0 1;spill 1 2;spill 2 3;spill 3 99;advance 99").spillCount(), 0);
    }

    // ---- records

    /** So many nights of two minutes, with a step in each. */
    private static MoonlitFloor nights(int count) {
        return Check.floor("floor 2 2;light 1;night 1;advance " + 2 * count);
    }

    private static void recordCount() {
        Sentence.promise(38, "Returns the number of records, 0 to 10.");
        Check.due("no night", Check.floor("floor 2 2;light 1").recordCount(), 0);
        Check.due("half a night", Check.floor("floor 2 2;light 1;advance 1").recordCount(), 0);
        int[] due = {1, 2, 3, 4, 5, 6, 7, 8, 9, 10, 10, 10};
        for (int count = 1; count <= due.length; count++) {
            Check.due("recordCount after " + count + " nights", nights(count).recordCount(), due[count - 1]);
        }
    }

    private static void recordNightAndSteps() {
        Sentence.promise(39, "Throws IndexOutOfBoundsException if there is no such record");
        MoonlitFloor none = Check.floor("floor 2 2;light 1");
        Check.noIndex("rank 0 of no record", () -> none.recordNight(0));
        Check.noIndex("rank -1 of no record", () -> none.recordNight(-1));
        Check.indexes("recordNight of 1", 1, rank -> nights(1).recordNight(rank));
        Check.indexes("recordNight of 9", 9, rank -> nights(9).recordNight(rank));
        Check.indexes("recordNight of 10", 10, rank -> nights(12).recordNight(rank));
        Check.due("the first night", nights(12).recordNight(0), 1);
        Check.due("the last night", nights(12).recordNight(9), 10);
        Sentence.promise(40, "Throws IndexOutOfBoundsException if there is no such record");
        Check.noIndex("rank 0 of no record", () -> none.recordSteps(0));
        Check.noIndex("rank -1 of no record", () -> none.recordSteps(-1));
        Check.indexes("recordSteps of 1", 1, rank -> nights(1).recordSteps(rank));
        Check.indexes("recordSteps of 9", 9, rank -> nights(9).recordSteps(rank));
        Check.indexes("recordSteps of 10", 10, rank -> nights(12).recordSteps(rank));
        Check.due("the steps of the first", Check.floor("floor 2 2;light 1;pace 3;sleep;pace 1;sleep").recordSteps(0), 3);
        Check.due("the steps of the last", Check.floor("floor 2 2;light 1;pace 3;sleep;pace 1;sleep").recordSteps(1), 1);
    }

    private static void rankOf() {
        Sentence.promise(41, "Throws IllegalArgumentException if steps is less than 1");
        Check.numbers("rankOf", 1, Integer.MAX_VALUE, steps -> nights(10).rankOf(steps));
        Sentence.promise(41, "Returns the rank that a night with a number of steps would get if it ended now.");
        Check.due("the first of all", Check.floor("floor 2 2").rankOf(1), 0);
        // nights of 3, 2, 2 and 1 steps
        MoonlitFloor floor = Check.floor("floor 2 2;light 1;pace 2;sleep;sleep;pace 3;sleep;pace 1;sleep");
        int[] due = {4, 3, 1, 0, 0};
        for (int steps = 1; steps <= 5; steps++) {
            Check.due("rankOf " + steps, floor.rankOf(steps), due[steps - 1]);
        }
        Check.due("recordCount afterwards", floor.recordCount(), 4);
    }

    private static void rankOfTheEleventh() {
        Sentence.promise(41, "Returns the rank; NONE if it would not be kept as a record.");
        Check.due("the tenth", nights(9).rankOf(1), 9);
        Check.due("the eleventh", nights(10).rankOf(1), -1);
        Check.due("a better one", nights(10).rankOf(2), 0);
        // a night of 3 steps and nine of 2
        MoonlitFloor floor = Check.floor("floor 2 2;light 1;night 8;pace 3;sleep;pace 2" + ";sleep".repeat(9));
        int[] due = {-1, -1, 1, 0};
        for (int steps = 1; steps <= 4; steps++) {
            Check.due("rankOf " + steps, floor.rankOf(steps), due[steps - 1]);
        }
    }

    private static void imbalance() {
        Sentence.promise(42, "plus 1 if stepsTonight() is greater than totalSteps(); it is always 0.");
        Check.due("at first", Check.floor("floor 2 2").imbalance(), 0);
        Check.due("in the first night", Check.floor(SHUTTLE + ";advance 39").imbalance(), 0);
        Check.due("in the second night", Check.floor(SHUTTLE + ";advance 40").imbalance(), 0);
        Check.due("after many nights", Check.floor(SHUTTLE + ";repeat 4(advance 300;advance 200)").imbalance(), 0);
        Check.due("on the greatest floor", Check.floor(LARGEST + ";pace 5;rug 5;advance 300").imbalance(), 0);
    }

    private static void averageWear() {
        Sentence.promise(43, "Returns the sum of the wear of all tiles, converted to double, divided by the number of tiles,"
                + " converted to double.");
        Check.due("no step", Check.floor("floor 8 10").averageWear(), 0.0);
        Check.due("one step of 80 tiles", Check.floor("floor 8 10;advance 1").averageWear(), 1.0 / 80.0);
        Check.due("one step of 6 tiles", Check.floor("floor 2 3;advance 1").averageWear(), 1.0 / 6.0);
        Check.due("150 steps of 4 tiles", Check.floor(SHUTTLE + ";advance 300").averageWear(), 37.5);
    }

    private static void litShare() {
        Sentence.promise(44, "Returns the number of lit tiles, converted to float, divided by the number of tiles, converted to"
                + " float.");
        Check.due("none", Check.floor("floor 8 10;night 0").litShare(), 0.0f);
        Check.due("none by cloud", Check.floor("floor 8 10;cloud 0 0").litShare(), 0.0f);
        Check.due("none by curtains", Check.floor("floor 2 2;curtain 0 1").litShare(), 0.0f);
        Check.due("one of 80", Check.floor("floor 8 10;curtain 0 1 2 3 4 5 6 7 8").litShare(), 1.0f / 80.0f);
        Check.due("two of 6", Check.floor("floor 2 3;curtain 1").litShare(), 2.0f / 6.0f);
        Check.due("a whole row of 4", Check.floor("floor 2 2").litShare(), 0.5f);
        Check.due("the last row of 21", Check.floor("floor 3 7;advance 14").litShare(), 7.0f / 21.0f);
    }

    // ---- predictions

    private static void stepsAfter() {
        Sentence.promise(45, "Throws IllegalArgumentException if minutes is out of range");
        MoonlitFloor floor = Check.floor(SHUTTLE);
        Check.numbers("stepsAfter", 0, 300, floor::stepsAfter);
        Sentence.promise(45, "minutes: number of minutes, 0 to 300");
        int[] minutes = {0, 1, 2, 3, 298, 299, 300};
        int[] due = {0, 1, 1, 2, 149, 150, 150};
        for (int i = 0; i < minutes.length; i++) {
            Check.due("stepsAfter " + minutes[i], floor.stepsAfter(minutes[i]), due[i]);
        }
        MoonlitFloor later = Check.floor(SHUTTLE + ";advance 5");
        Check.due("stepsAfter 0, later", later.stepsAfter(0), 3);
        Check.due("stepsAfter 300, later", later.stepsAfter(300), 153);
    }

    private static void walkerTileAfter() {
        Sentence.promise(46, "Throws IllegalArgumentException if minutes is out of range");
        MoonlitFloor floor = Check.floor(SHUTTLE);
        Check.numbers("walkerTileAfter", 0, 300, floor::walkerTileAfter);
        Sentence.promise(46, "minutes: number of minutes, 0 to 300");
        // rows change after 20 minutes, and columns after minutes 1, 3, 5 and so on
        int[] minutes = {0, 1, 2, 3, 19, 20, 21, 39, 40, 299, 300};
        int[] due = {0, 1, 1, 0, 0, 2, 3, 2, 0, 0, 2};
        for (int i = 0; i < minutes.length; i++) {
            Check.due("walkerTileAfter " + minutes[i], floor.walkerTileAfter(minutes[i]), due[i]);
        }
        Check.due("off the floor", Check.floor("floor 2 2;curtain 0 1").walkerTileAfter(300), -1);
    }

    private static void spillTimeAfter() {
        Sentence.promise(47, "Throws IndexOutOfBoundsException if there is no such tile");
        Check.indexes("spillTimeAfter of 4", 4, tile -> Check.floor("floor 2 2").spillTimeAfter(tile, 0));
        Check.indexes("spillTimeAfter of 80", 80, tile -> Check.floor(LARGEST).spillTimeAfter(tile, 300));
        Sentence.promise(47, "Throws IllegalArgumentException if minutes is out of range");
        MoonlitFloor floor = Check.floor("floor 2 2;night 0;rug 2;spill 3 99;spill 2 99");
        Check.numbers("spillTimeAfter", 0, 300, minutes -> floor.spillTimeAfter(3, minutes));
        Sentence.promise(47, "minutes: number of minutes, 0 to 300");
        int[] minutes = {0, 1, 49, 50, 98, 99, 100, 300};
        int[] bare = {99, 98, 50, 49, 1, 0, 0, 0};
        int[] underRug = {99, 97, 1, 0, 0, 0, 0, 0};
        for (int i = 0; i < minutes.length; i++) {
            Check.due("spillTimeAfter 3 " + minutes[i], floor.spillTimeAfter(3, minutes[i]), bare[i]);
            Check.due("spillTimeAfter 2 " + minutes[i], floor.spillTimeAfter(2, minutes[i]), underRug[i]);
            Check.due("spillTimeAfter 0 " + minutes[i], floor.spillTimeAfter(0, minutes[i]), 0);
        }
    }

    private static void minutesUntilStep() {
        Sentence.promise(48, "Throws IndexOutOfBoundsException if there is no such tile");
        Check.indexes("minutesUntilStep of 4", 4, tile -> Check.floor("floor 2 2").minutesUntilStep(tile));
        Check.indexes("minutesUntilStep of 80", 80, tile -> Check.floor(LARGEST).minutesUntilStep(tile));
        Sentence.promise(48, "Returns the number of minutes, 1 or more; NONE if the wear stays the same for 500 minutes.");
        MoonlitFloor floor = Check.floor(SHUTTLE);
        int[] due = {3, 1, 23, 21};
        for (int tile = 0; tile < 4; tile++) {
            Check.due("minutesUntilStep " + tile, floor.minutesUntilStep(tile), due[tile]);
        }
        floor.advance(1);
        Check.due("the next step on a tile that has wear", floor.minutesUntilStep(1), 4);
        Check.due("never", Check.floor("floor 2 2;curtain 1").minutesUntilStep(1), -1);
    }

    /**
     * The moon shines only in row 1, from minute 20 to 39. Column 0 is closed then in nights 29 and 31; night 30 is dark. So
     * the walker, who faces left, makes 20 turns on tile 3 in nights 29 and 31, and in night 32 a step to tile 2, in minute
     * 501 of all.
     */
    private static void minutesUntilStepAtTheBound() {
        Sentence.promise(48, "NONE if the wear stays the same for 500 minutes.");
        String setup = "floor 8 2;light 20;night 29;curtain 0;draught 0 60;cloud 0 19;cloud 40 159;walker 0 left";
        MoonlitFloor floor = Check.floor(setup);
        Check.due("501 minutes", floor.minutesUntilStep(2), -1);
        floor.advance(1);
        Check.due("500 minutes", floor.minutesUntilStep(2), 500);
        floor.advance(1);
        Check.due("499 minutes", floor.minutesUntilStep(2), 499);
        floor.advance(300);
        floor.advance(198);
        Check.due("1 minute", floor.minutesUntilStep(2), 1);
        Check.due("totalSteps before it", floor.totalSteps(), 0);
        Check.due("turnCount before it", floor.turnCount(), 40);
        Check.due("the step", floor.advance(1), 1);
        Check.due("wear", floor.wear(2), 1);
    }

    private static void minutesUntilFall() {
        Sentence.promise(49, "Returns the number of minutes, 1 or more; NONE if the walker does not fall within 500 minutes.");
        Check.due("in this minute", Check.floor("floor 2 2;cat 0 stay;bowl 0").minutesUntilFall(), 1);
        Check.due("in the next one", Check.floor("floor 2 2;curtain 1;cat 2 stay up;bowl 0").minutesUntilFall(), 2);
        Check.due("no bowl", Check.floor("floor 2 2;curtain 1;cat 0 stay").minutesUntilFall(), -1);
        Check.due("no move", Check.floor("floor 2 2;curtain 1;cat 0;bowl 0").minutesUntilFall(), -1);
        Check.due("after a fall", Check.floor("floor 2 2;cat 0 stay;bowl 0;advance 1").minutesUntilFall(), -1);
    }

    /**
     * The walker never leaves tile 7. The cat goes right, right and left; each bowl that it reaches, in minute 2 the one on
     * tile 2, holds it back for 99 minutes, and 102 minutes later it reaches the next one: in minute 512 the one on tile 7.
     */
    private static void minutesUntilFallAtTheBound() {
        Sentence.promise(49, "NONE if the walker does not fall within 500 minutes.");
        MoonlitFloor floor = Check.floor("floor 2 10;light 20;drying 99;cloud 20 39;curtain 0 1 2 3 4 5 6 8 9;walker 7 right;"
                + "cat 0 right right left;bowl 2 3 4 5 6 7;advance 11");
        Check.due("501 minutes", floor.minutesUntilFall(), -1);
        floor.advance(1);
        Check.due("500 minutes", floor.minutesUntilFall(), 500);
        floor.advance(1);
        Check.due("499 minutes", floor.minutesUntilFall(), 499);
        floor.advance(300);
        floor.advance(198);
        Check.due("1 minute", floor.minutesUntilFall(), 1);
        Check.due("fallCount before it", floor.fallCount(), 0);
        floor.advance(1);
        Check.due("fallCount", floor.fallCount(), 1);
        Check.due("walkerTile", floor.walkerTile(), 7);
        Check.due("no other fall", floor.minutesUntilFall(), -1);
    }

    private static void stepsAtPace() {
        Sentence.promise(50, "Throws IllegalArgumentException if pace or minutes is out of range");
        MoonlitFloor floor = Check.floor(SHUTTLE);
        Check.numbers("stepsAtPace", 1, 5, pace -> floor.stepsAtPace(pace, 0));
        Check.numbers("stepsAtPace", 1, 5, pace -> floor.stepsAtPace(pace, 300));
        Check.numbers("stepsAtPace 1", 0, 300, minutes -> floor.stepsAtPace(1, minutes));
        Check.numbers("stepsAtPace 5", 0, 300, minutes -> floor.stepsAtPace(5, minutes));
        Check.noArgument("both out of range", () -> floor.stepsAtPace(0, -1));
        Sentence.promise(50, "Predicts totalSteps() after some minutes if the pace was set to another value now.");
        // half of the tries are steps; from night 19 on the moon is too weak for a pace of 4
        int[] due = {150, 300, 450, 530, 530};
        int[] inAMinute = {1, 1, 2, 2, 2};
        for (int pace = 1; pace <= 5; pace++) {
            Check.due("stepsAtPace " + pace + " 300", floor.stepsAtPace(pace, 300), due[pace - 1]);
            Check.due("stepsAtPace " + pace + " 1", floor.stepsAtPace(pace, 1), inAMinute[pace - 1]);
            Check.due("stepsAtPace " + pace + " 0", floor.stepsAtPace(pace, 0), 0);
        }
        Check.due("pace", floor.pace(), 1);
    }

    private static void bestPace() {
        Sentence.promise(51, "Throws IllegalArgumentException if minutes is out of range");
        MoonlitFloor floor = Check.floor(SHUTTLE + ";pace 5");
        Check.numbers("bestPace", 0, 300, floor::bestPace);
        Sentence.promise(51, "Returns the pace; of several the smallest one.");
        Check.due("all are equal", floor.bestPace(0), 1);
        Check.due("1, 1, 2, 2, 2 steps", floor.bestPace(1), 3);
        Check.due("150, 300, 450, 530, 530 steps", floor.bestPace(300), 4);
        Check.due("pace", floor.pace(), 5);
        Check.due("a dark night", Check.floor(SHUTTLE + ";night 0;pace 3").bestPace(40), 1);
    }

    private static void bestCurtain() {
        Sentence.promise(52, "Throws IllegalArgumentException if minutes is out of range");
        // column 2 opened gives a step first, and column 0 a turn first; then steps and turns by turns
        MoonlitFloor floor = Check.floor("floor 2 3;light 20;curtain 0 2;walker 1 right");
        Check.numbers("bestCurtain", 0, 300, floor::bestCurtain);
        Check.numbers("bestCurtain of none", 0, 300, minutes -> Check.floor(SHUTTLE).bestCurtain(minutes));
        Sentence.promise(52, "Returns index of the column; of several the smallest one; NONE if no curtain is closed.");
        Check.due("0 and 0 steps", floor.bestCurtain(0), 0);
        Check.due("0 and 1 steps", floor.bestCurtain(1), 2);
        Check.due("1 and 1 steps", floor.bestCurtain(2), 0);
        Check.due("149 and 150 steps", floor.bestCurtain(299), 2);
        Check.due("150 and 150 steps", floor.bestCurtain(300), 0);
        Check.due("none is closed", Check.floor("floor 2 3").bestCurtain(300), -1);
        Check.due("the last one", Check.floor("floor 2 10;curtain 9").bestCurtain(0), 9);
        Check.due("all", Check.floor("floor 2 10;curtain 0 1 2 3 4 5 6 7 8 9").bestCurtain(0), 0);
    }

    // ---- text output

    private static void writeRow() {
        Sentence.promise(53, "Throws IndexOutOfBoundsException if there is no such row");
        Check.indexes("writeRow of 2", 2, row -> Check.floor("floor 2 10").writeRow(row));
        Check.indexes("writeRow of 3", 3, row -> Check.floor("floor 3 4").writeRow(row));
        Check.indexes("writeRow of 8", 8, row -> Check.floor("floor 8 2").writeRow(row));
        Sentence.promise(53, "Returns the number of bytes of the output.");
        for (int columns = 2; columns <= 10; columns++) {
            Check.due("writeRow of " + columns, Check.floor("floor 2 " + columns).writeRow(1), columns);
        }
        MoonlitFloor floor = Check.floor("floor 8 10;rug 0 9 70 79");
        Check.due("the first row", Check.row(floor, 0), "W********r");
        Check.due("the last row", Check.row(floor, 7), "r........r");
    }

    private static void sign(String setup, char due) {
        Check.due("sign of tile 3 after " + setup, Check.row(Check.floor("floor 2 4;" + setup), 0).charAt(3), due);
    }

    private static void signsOfARow() {
        Sentence.promise(53, "The character is the first of these that applies: W the walker stands there; C the cat is there; o a"
                + " bowl; ~ a spill; r a rug; * the tile is lit; . otherwise.");
        sign("night 0", '.');
        sign("curtain 3", '.');
        sign("pace 1", '*');
        sign("rug 3", 'r');
        sign("night 0;rug 3", 'r');
        sign("rug 3;spill 3 1", '~');
        sign("night 0;spill 3 1", '~');
        sign("rug 3;bowl 3", 'o');
        sign("rug 3;cat 3", 'C');
        sign("rug 3;cat 3;spill 3 1", 'C');
        sign("rug 3;cat 3;bowl 3", 'C');
        sign("cat 3;night 0", 'C');
        sign("rug 3;cat 3;walker 3 left", 'W');
        sign("rug 3;cat 3;walker 3 left;bowl 3", 'W');
        sign("walker 3 left;spill 3 1", 'W');
        sign("walker 3 left;rug 3", 'W');
        sign("walker 3 left;close 3", 'W');
    }

    private static void writeRecords() {
        Sentence.promise(54, "for each record, in the order of the ranks, the night, a colon and the number of steps, with a space"
                + " between two records. Without records the output is a single hyphen.");
        String[] due = {"1:1", "1:1 2:1", "1:1 2:1 3:1"};
        MoonlitFloor none = Check.floor("floor 2 2;light 1;advance 1");
        Check.due("the length of no record", none.writeRecords(), 1);
        Check.due("no record", Check.records(none), "-");
        for (int count = 1; count <= due.length; count++) {
            Check.due("the length of " + count, nights(count).writeRecords(), 4 * count - 1);
            Check.due("records of " + count, Check.records(nights(count)), due[count - 1]);
        }
        Check.due("ten records", Check.records(nights(11)), "1:1 2:1 3:1 4:1 5:1 6:1 7:1 8:1 9:1 10:1");
        Check.due("a large night", Check.records(Check.floor("floor 2 2;light 1;night 999;advance 4")), "999:1 1000:1");
        // 640 tries, of which each tenth is a turn
        Check.due("many steps", Check.records(Check.floor("floor 8 10;light 20;pace 4;advance 160")), "15:576");
    }

    private static void outputByte() {
        Sentence.promise(55, "Throws IndexOutOfBoundsException if there is no such byte; always, before the first output");
        MoonlitFloor floor = Check.floor("floor 2 10");
        for (int index : new int[] {0, 1, -1, Integer.MIN_VALUE, Integer.MAX_VALUE}) {
            Check.noIndex("before the first output, " + index, () -> floor.outputByte(index));
            Check.noIndex("without a setup, " + index, () -> new MoonlitFloor().outputByte(index));
        }
        floor.writeRow(0);
        Check.indexes("outputByte of 10", 10, floor::outputByte);
        floor.writeRecords();
        Check.indexes("outputByte of 1", 1, floor::outputByte);
        MoonlitFloor ten = nights(10);
        ten.writeRecords();
        Check.indexes("outputByte of 40", 40, ten::outputByte);
        Sentence.promise(55, "Returns the byte.");
        Check.due("the first byte", ten.outputByte(0), 49);
        Check.due("the last byte", ten.outputByte(39), 49);
        Check.due("the byte before it", ten.outputByte(38), 58);
    }
}
