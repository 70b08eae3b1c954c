/** The bounds that sections 1 to 5 name, with what is so just before each of them and just behind it. */
final class MinuteBoundsTest {
    private MinuteBoundsTest() {
    }

    public static void main(String[] args) {
        indexOfTiles();
        moonRow();
        lengthOfTheNight();
        ageOfTheMoon();
        brightness();
        fourClouds();
        cloudsOfEveryNight();
        moonShines();
        periods();
        litTiles();
        drying();
        goneSpill();
        sixRugs();
        slideToAnEdge();
        slideToSomething();
        rememberedColumn();
        triedSteps();
        possibleSteps();
        wearOfSteps();
        turns();
        noStepsAndNoTurns();
        pauses();
        longestStamina();
        noPauses();
        whenRelocated();
        nearestColumn();
        nearestDryTile();
        noLitTile();
        relocationIsNoStep();
        longestRoute();
        shortestRoutes();
        edgesOfTheCat();
        spillBeforeTheCat();
        catWithoutMoves();
        spilledBowl();
        fall();
        fallWhileResting();
        noiseRange();
        distance();
        directionOfTheStartled();
        restingAndStartled();
        catMovesFirst();
        restInsteadOfSteps();
        newSpillsDry();
        endOfTheNight();
        curtainsOfTheNewMinute();
        relocatedAtLast();
        nightWithoutSteps();
        orderOfRecords();
        tenRecords();
        nextNight();
        Check.end();
    }

    private static MoonlitFloor after(String setup, int minutes) {
        MoonlitFloor floor = Check.floor(setup);
        for (int left = minutes; left > 0; left -= 300) {
            floor.advance(Math.min(left, 300));
        }
        return floor;
    }

    // ---- section 1

    private static void indexOfTiles() {
        Sentence.term("The floor has rows and columns, both numbered from 0. The index of a tile is the number of columns times"
                + " its row, plus its column. Row 0 is the upper row and column 0 is the left column.");
        int[] tiles = {0, 3, 4, 7, 8, 11};
        String[] rows = {"W***", "W**C", "C...", "...C", "C...", "...C"};
        for (int i = 0; i < tiles.length; i++) {
            MoonlitFloor floor = Check.floor("floor 3 4;cat " + tiles[i]);
            Check.due("row of tile " + tiles[i], Check.row(floor, i / 2), rows[i]);
        }
        Check.due("up", after("floor 3 4;cat 5 up", 1).catTile(), 1);
        Check.due("left", after("floor 3 4;cat 5 left", 1).catTile(), 4);
        Check.due("down", after("floor 3 4;cat 5 down", 1).catTile(), 9);
        Check.due("right", after("floor 3 4;cat 5 right", 1).catTile(), 6);
    }

    private static void moonRow() {
        Sentence.term("The moon row is the minute divided by the number of minutes per row, rounded down.");
        int[] minutes = {0, 1, 19, 20, 39, 40, 139, 140, 159, 160, 179, 180};
        int[] due = {0, 0, 0, 1, 1, 2, 6, 7, 7, 0, 0, 1};
        for (int i = 0; i < minutes.length; i++) {
            Check.due("moonRow after " + minutes[i], after("floor 8 2;light 20", minutes[i]).moonRow(), due[i]);
        }
        for (int minute = 0; minute < 8; minute++) {
            Check.due("moonRow after " + minute, after("floor 8 2;light 1", minute).moonRow(), minute);
        }
        Check.due("moonRow of the next night", after("floor 8 2;light 1", 8).moonRow(), 0);
    }

    private static void lengthOfTheNight() {
        Sentence.term("A night has as many minutes as the number of rows times the number of minutes per row; then the next"
                + " night begins with minute 0.");
        String[] setups = {"floor 2 2;light 1", "floor 2 10;light 20", "floor 8 2;light 1", "floor 8 10;light 20",
            "floor 3 4;light 7"};
        int[] lengths = {2, 40, 8, 160, 21};
        for (int i = 0; i < setups.length; i++) {
            MoonlitFloor last = after(setups[i], lengths[i] - 1);
            Check.due("night in the last minute of " + setups[i], last.night(), 15);
            Check.due("the last minute of " + setups[i], last.minute(), lengths[i] - 1);
            last.advance(1);
            Check.due("night after that of " + setups[i], last.night(), 16);
            Check.due("minute after that of " + setups[i], last.minute(), 0);
            MoonlitFloor next = after(setups[i], 2 * lengths[i]);
            Check.due("night after two nights of " + setups[i], next.night(), 17);
            Check.due("minute after two nights of " + setups[i], next.minute(), 0);
        }
    }

    private static void ageOfTheMoon() {
        Sentence.term("The age of the moon is the number of the night modulo 30.");
        int[] nights = {0, 1, 29, 30, 31, 59, 60, 61, 989, 990, 999};
        int[] due = {0, 1, 1, 0, 1, 1, 0, 1, 1, 0, 9};
        for (int i = 0; i < nights.length; i++) {
            Check.due("brightness of night " + nights[i], Check.floor("floor 2 2;night " + nights[i]).brightness(), due[i]);
        }
        MoonlitFloor floor = after("floor 2 2;light 1;night 999", 2);
        Check.due("night after 999", floor.night(), 1000);
        Check.due("brightness of night 1000, whose age is 10", floor.brightness(), 10);
    }

    private static void brightness() {
        Sentence.term("The brightness is the age if the age is 15 or less, and 30 minus the age otherwise.");
        for (int age = 0; age < 30; age++) {
            int due = age < 16 ? age : 30 - age;
            Check.due("brightness of age " + age, Check.floor("floor 2 2;night " + age).brightness(), due);
        }
        Check.due("brightness of age 14", Check.floor("floor 2 2;night 14").brightness(), 14);
        Check.due("brightness of age 15", Check.floor("floor 2 2;night 15").brightness(), 15);
        Check.due("brightness of age 16", Check.floor("floor 2 2;night 16").brightness(), 14);
    }

    private static String shining(String setup, int minutes) {
        MoonlitFloor floor = Check.floor(setup);
        StringBuilder text = new StringBuilder();
        for (int minute = 0; minute < minutes; minute++) {
            text.append(floor.moonShines() ? '1' : '0');
            floor.advance(1);
        }
        return text.toString();
    }

    private static void fourClouds() {
        Sentence.term("There are at most 4 clouds.");
        String four = "floor 2 2;light 5;cloud 0 0;cloud 2 2;cloud 4 4;cloud 9 9";
        Check.due("4 clouds", shining(four, 10), "0101011110");
        Check.error(four + ";cloud 6 6", MoonlitFloor.LIMIT_ERROR, four.length() + 1);
    }

    private static void cloudsOfEveryNight() {
        Sentence.term("A cloud covers the moon from its first to its last minute of every night.");
        String floor = "floor 2 2;light 5;";
        Check.due("cloud 3 6", shining(floor + "cloud 3 6", 20), "11100001111110000111");
        Check.due("cloud 4 4", shining(floor + "cloud 4 4", 20), "11110111111111011111");
        Check.due("cloud 0 0", shining(floor + "cloud 0 0", 20), "01111111110111111111");
        Check.due("cloud 9 9", shining(floor + "cloud 9 9", 20), "11111111101111111110");
        Check.due("cloud 9 159", shining(floor + "cloud 9 159", 20), "11111111101111111110");
        Check.due("cloud 10 159", shining(floor + "cloud 10 159", 20), "11111111111111111111");
        Check.due("cloud 0 159", shining(floor + "cloud 0 159", 20), "00000000000000000000");
        Check.due("clouds that overlap", shining(floor + "cloud 2 4;cloud 4 5;cloud 3 3;cloud 8 8", 10), "1100001101");
        String longest = "floor 8 2;light 20;cloud 159 159";
        Check.due("minute 158", after(longest, 158).moonShines(), true);
        Check.due("minute 159", after(longest, 159).moonShines(), false);
        Check.due("minute 0 of the next night", after(longest, 160).moonShines(), true);
    }

    private static void moonShines() {
        Sentence.term("The moon shines if the brightness is greater than 0 and no cloud covers it.");
        int[] nights = {0, 1, 15, 29, 30, 31};
        boolean[] due = {false, true, true, true, false, true};
        for (int i = 0; i < nights.length; i++) {
            Check.due("night " + nights[i], Check.floor("floor 2 2;night " + nights[i]).moonShines(), due[i]);
            Check.due("cloud in night " + nights[i],
                    Check.floor("floor 2 2;cloud 0 0;night " + nights[i]).moonShines(), false);
        }
        MoonlitFloor floor = after("floor 2 2;light 1;night 29", 1);
        Check.due("the last minute of night 29", floor.moonShines(), true);
        floor.advance(1);
        Check.due("the first minute of night 30", floor.moonShines(), false);
        floor.advance(2);
        Check.due("the first minute of night 31", floor.moonShines(), true);
    }

    private static String closed(String setup, int minutes) {
        MoonlitFloor floor = Check.floor(setup);
        StringBuilder text = new StringBuilder();
        for (int minute = 0; minute < minutes; minute++) {
            text.append(floor.isCurtainClosed(0) ? 'c' : 'o');
            floor.advance(1);
        }
        return text.toString();
    }

    private static void periods() {
        Sentence.term("Each column has a curtain, which is open or closed, and may have a draught with a period of 2 to 60"
                + " minutes.");
        Check.due("no draught", closed("floor 2 2;light 3", 12), "oooooooooooo");
        Check.due("period 2", closed("floor 2 2;light 3;draught 0 2", 12), "ooccoocc" + "oocc");
        Check.due("period 2 of a closed curtain", closed("floor 2 2;light 3;curtain 0;draught 0 2", 6), "ccoocc");
        Check.due("period 2 in nights of 3 minutes", closed("floor 3 2;light 1;draught 0 2", 9), "oocooc" + "ooc");
        Check.due("minute 59", after("floor 4 2;light 20;draught 0 60", 59).isCurtainClosed(0), false);
        Check.due("minute 60", after("floor 4 2;light 20;draught 0 60", 60).isCurtainClosed(0), true);
        Check.due("minute 79", after("floor 4 2;light 20;draught 0 60", 79).isCurtainClosed(0), true);
        Check.due("minute 0 of the next night", after("floor 4 2;light 20;draught 0 60", 80).isCurtainClosed(0), false);
        Check.due("minute 60 of the next night", after("floor 4 2;light 20;draught 0 60", 140).isCurtainClosed(0), true);
    }

    private static void litTiles() {
        Sentence.term("A tile is lit if the moon shines, the tile is in the moon row, and the curtain of its column is open.");
        String floor = "floor 3 4;light 2";
        Check.due("the last tile of the moon row", Check.floor(floor).isLit(3), true);
        Check.due("the first tile of the next row", Check.floor(floor).isLit(4), false);
        Check.due("the tile of the row before", after(floor, 2).isLit(3), false);
        Check.due("the first tile of row 1", after(floor, 2).isLit(4), true);
        Check.due("the last tile of row 1", after(floor, 3).isLit(7), true);
        Check.due("the last tile of the floor", after(floor, 5).isLit(11), true);
        Check.due("the last tile before its row", after(floor, 3).isLit(11), false);
        Check.due("a closed curtain", Check.floor(floor + ";curtain 3").isLit(3), false);
        Check.due("the column beside it", Check.floor(floor + ";curtain 3").isLit(2), true);
        Check.due("no moon", Check.floor(floor + ";night 0").isLit(3), false);
        Check.due("a cloud", Check.floor(floor + ";cloud 0 0").isLit(3), false);
    }

    // ---- section 2

    private static void drying() {
        Sentence.term("This number becomes 1 less in each minute, or 2 less if there is a rug on the tile, but not less than 0.");
        String setup = "floor 2 6;night 0;rug 0 1 2;spill 0 1;spill 1 2;spill 2 3;spill 3 1;spill 4 2;spill 5 3";
        int[][] due = {{1, 2, 3, 1, 2, 3}, {0, 0, 1, 0, 1, 2}, {0, 0, 0, 0, 0, 1}, {0, 0, 0, 0, 0, 0}, {0, 0, 0, 0, 0, 0}};
        for (int minutes = 0; minutes < due.length; minutes++) {
            MoonlitFloor floor = after(setup, minutes);
            for (int tile = 0; tile < 6; tile++) {
                Check.due("spillTime " + tile + " after " + minutes, floor.spillTime(tile), due[minutes][tile]);
            }
        }
        Check.due("98 of 99 minutes", after("floor 2 2;night 0;spill 0 99", 98).spillTime(0), 1);
        Check.due("99 of 99 minutes", after("floor 2 2;night 0;spill 0 99", 99).spillTime(0), 0);
        Check.due("49 minutes under a rug", after("floor 2 2;night 0;rug 0;spill 0 99", 49).spillTime(0), 1);
        Check.due("50 minutes under a rug", after("floor 2 2;night 0;rug 0;spill 0 99", 50).spillTime(0), 0);
    }

    private static void goneSpill() {
        Sentence.term("The spill is gone when the number is 0.");
        MoonlitFloor floor = Check.floor("floor 2 2;night 0;spill 1 2;advance 1");
        Check.due("spillCount at 1", floor.spillCount(), 1);
        Check.noArgument("placeBowl at 1", () -> floor.placeBowl(1));
        Check.due("row at 1", Check.row(floor, 0), ".~");
        floor.advance(1);
        Check.due("spillCount at 0", floor.spillCount(), 0);
        Check.noArgument("mop at 0", () -> floor.mop(1));
        Check.due("row at 0", Check.row(floor, 0), "..");
        Check.due("placeBowl at 0", floor.placeBowl(1), 1);
        // a turn in each minute of the spill, then the step
        Check.due("steps while the spill is there", after("floor 2 2;light 20;curtain 1;open 1;spill 1 2", 2).totalSteps(), 0);
        MoonlitFloor walker = after("floor 2 2;light 20;spill 1 2", 2);
        Check.due("turns while the spill is there", walker.turnCount(), 2);
        walker.advance(1);
        Check.due("walkerTile when it is gone", walker.walkerTile(), 1);
    }

    private static void sixRugs() {
        Sentence.term("There are at most 6 rugs, and at most one on each tile.");
        MoonlitFloor six = Check.floor("floor 2 7;light 20;rug 1 2 3 4 5 6");
        Check.due("rugs", Check.row(six, 0), "Wrrrrrr");
        six.advance(1);
        Check.due("none slides onto another", six.slideCount(), 0);
        Check.due("rugs", six.hasRug(1) && six.hasRug(2), true);
        Check.error("floor 2 7;rug 1 2 3 4 5 6 7", MoonlitFloor.LIMIT_ERROR, 26);
        Check.error("floor 2 7;rug 1 1", MoonlitFloor.CONFLICT_ERROR, 16);
    }

    private static void slide(String setup, int minutes, int walker, int rug, int slides) {
        MoonlitFloor floor = after(setup, minutes);
        Check.due("walkerTile of " + setup, floor.walkerTile(), walker);
        Check.due("slideCount of " + setup, floor.slideCount(), slides);
        for (int tile = 0; tile < floor.rows() * floor.columns(); tile++) {
            Check.due("hasRug " + tile + " of " + setup, floor.hasRug(tile), tile == rug);
        }
    }

    private static void slideToAnEdge() {
        Sentence.term("When a step of the walker leads to a tile with a rug, the rug slides to the next tile in the direction of"
                + " the step, if that tile exists and there is neither a rug nor a spill nor a bowl on it. Otherwise the rug"
                + " stays. The walker stands on the tile to which the step led in both cases.");
        slide("floor 2 3;light 20;rug 1", 1, 1, 2, 1);
        slide("floor 2 3;light 20;walker 1 right;rug 2", 1, 2, 2, 0);
        slide("floor 2 3;light 20;walker 2 left;rug 1", 1, 1, 0, 1);
        slide("floor 2 3;light 20;walker 1 left;rug 0", 1, 0, 0, 0);
        // in row 1 the tile before its first is the last of row 0
        slide("floor 2 3;light 2;cloud 0 1;walker 1 left;rug 3", 3, 3, 3, 0);
        slide("floor 2 3;light 2;cloud 0 1;walker 2 left;rug 4", 3, 4, 3, 1);
        slide("floor 8 10;light 2;cloud 0 13;walker 8 right;rug 79", 15, 79, 79, 0);
        slide("floor 8 10;light 2;cloud 0 13;walker 7 right;rug 78", 15, 78, 79, 1);
    }

    private static void slideToSomething() {
        Sentence.term("if that tile exists and there is neither a rug nor a spill nor a bowl on it.");
        slide("floor 2 4;light 20;rug 1;bowl 2", 1, 1, 1, 0);
        slide("floor 2 4;light 20;rug 1;bowl 3", 1, 1, 2, 1);
        slide("floor 2 4;light 20;rug 1;spill 2 2", 1, 1, 1, 0);
        slide("floor 2 4;light 20;rug 1;spill 2 1", 1, 1, 1, 0);
        slide("floor 2 4;light 20;rug 1;cloud 0 0;spill 2 1", 2, 1, 2, 1);
        slide("floor 2 4;light 20;rug 1;close 2", 1, 1, 2, 1);
        slide("floor 2 4;light 20;rug 1;cat 2", 1, 1, 2, 1);
        // right to the bowl, over it, and back: the rug comes to the tile that it left
        slide("floor 2 5;light 20;rug 2;bowl 4", 3, 3, 3, 1);
        slide("floor 2 5;light 20;rug 2;bowl 4", 5, 4, 3, 1);
        slide("floor 2 5;light 20;rug 2;bowl 4", 6, 3, 2, 2);
        MoonlitFloor two = after("floor 2 4;light 20;rug 1 2", 1);
        Check.due("a rug behind a rug", two.hasRug(1) && two.hasRug(2) && !two.hasRug(3), true);
        Check.due("walkerTile", two.walkerTile(), 1);
    }

    // ---- section 3

    private static void rememberedColumn() {
        Sentence.term("While the walker stands on a tile, the remembered column is the column of this tile.");
        Check.due("after two steps", after("floor 2 5;light 2;walker 1 right", 2).walkerTile(), 8);
        // relocated to column 1, from where the walker turns at the curtain of column 2
        Check.due("after a relocation", after("floor 3 5;light 1;walker 0 right;curtain 0 2;open 0", 1).walkerTile(), 6);
        // three steps, a turn at the curtain of column 2, and a row that is dark in columns 2 and 3
        Check.due("after three steps", after("floor 2 6;light 4;advance 3;turn;close 2 3;advance 1", 0).walkerTile(), 10);
    }

    private static void triedSteps() {
        Sentence.term("This number is the minimum of the pace and 1 plus the brightness divided by 4, rounded down; it is 0 if"
                + " the moon does not shine.");
        int[] nights = {0, 1, 3, 4, 7, 8, 11, 12, 15, 18, 19, 22, 23, 26, 27, 29, 30};
        int[] most = {0, 1, 1, 2, 2, 3, 3, 4, 4, 4, 3, 3, 2, 2, 1, 1, 0};
        for (int i = 0; i < nights.length; i++) {
            for (int pace = 1; pace <= 5; pace++) {
                MoonlitFloor floor = Check.floor("floor 2 10;light 20;night " + nights[i] + ";pace " + pace);
                int due = Math.min(pace, most[i]);
                String what = " at pace " + pace + " in night " + nights[i];
                Check.due("stepsPerMinute" + what, floor.stepsPerMinute(), due);
                Check.due("steps" + what, floor.advance(1), due);
            }
        }
        Check.due("steps by cloud", after("floor 2 10;light 20;pace 5;cloud 1 1", 2).totalSteps(), 4);
    }

    private static void possibleSteps() {
        Sentence.term("The step is possible if this tile exists, the curtain of its column is open, and there is no spill on it.");
        int[] steps = {1, 0, 1, 0, 0, 0, 0, 0, 1};
        String[] setups = {"walker 1 right", "walker 2 right", "walker 1 left", "walker 0 left", "curtain 1", "close 1",
            "spill 1 1", "spill 1 99", "walker 1 right;close 1 0;spill 1 9;spill 0 9"};
        for (int i = 0; i < setups.length; i++) {
            Check.due("steps of " + setups[i], after("floor 2 3;light 20;" + setups[i], 1).totalSteps(), steps[i]);
        }
        // a spill of 1 minute holds the step of this minute, and not that of the next one
        Check.due("turns before a spill of 1 minute",
                after("floor 2 3;light 20;walker 0 left;spill 1 1", 2).totalSteps(), 1);
    }

    private static void wearOfSteps() {
        Sentence.term("If the step is possible, the walker moves to this tile and the wear of this tile becomes 1 greater.");
        MoonlitFloor floor = Check.floor("floor 2 2;light 20");
        int[] first = {0, 0, 0, 1, 1, 1, 1, 2};
        int[] second = {0, 1, 1, 1, 1, 2, 2, 2};
        for (int minutes = 0; minutes < 8; minutes++) {
            Check.due("wear 0 after " + minutes, floor.wear(0), first[minutes]);
            Check.due("wear 1 after " + minutes, floor.wear(1), second[minutes]);
            Check.due("walkerTile after " + minutes, floor.walkerTile(), first[minutes] == second[minutes] ? 0 : 1);
            floor.advance(1);
        }
    }

    private static void turns() {
        Sentence.term("Otherwise the walker stays and faces the other direction; this is a turn, which uses up one of the tried"
                + " steps but is not a step.");
        int[] steps = {1, 1, 2, 2};
        int[] turns = {0, 1, 1, 2};
        for (int pace = 1; pace <= 4; pace++) {
            MoonlitFloor floor = after("floor 2 2;light 20;pace " + pace, 1);
            Check.due("steps at pace " + pace, floor.totalSteps(), steps[pace - 1]);
            Check.due("turns at pace " + pace, floor.turnCount(), turns[pace - 1]);
            Check.due("facesRight at pace " + pace, floor.facesRight(), turns[pace - 1] % 2 == 0);
        }
        MoonlitFloor shut = after("floor 2 2;light 20;pace 4;curtain 1", 1);
        Check.due("4 turns", shut.turnCount(), 4);
        Check.due("wear of no step", shut.wear(0), 0);
        Check.due("stepsSincePause of no step", shut.stepsSincePause(), 0);
    }

    private static void noStepsAndNoTurns() {
        Sentence.term("The walker makes no steps and no turns while off the floor or resting.");
        MoonlitFloor off = after("floor 2 2;pace 4;curtain 0 1", 300);
        Check.due("walkerTile", off.walkerTile(), -1);
        Check.due("steps off the floor", off.totalSteps(), 0);
        Check.due("turns off the floor", off.turnCount(), 0);
        MoonlitFloor resting = Check.floor("floor 2 2;light 20;pace 4;rest 9;cat 0 stay;bowl 0");
        for (int minutes = 1; minutes <= 9; minutes++) {
            resting.advance(1);
            Check.due("restRemaining after " + minutes, resting.restRemaining(), 9 - minutes);
            Check.due("steps after " + minutes, resting.totalSteps(), 0);
            Check.due("turns after " + minutes, resting.turnCount(), 0);
        }
        // the spill of 10 minutes lies there in this minute, too: a step, and three turns
        resting.advance(1);
        Check.due("steps after 10", resting.totalSteps(), 1);
        Check.due("turns after 10", resting.turnCount(), 3);
    }

    private static void pauses() {
        Sentence.term("If the stamina is not 0, the walker pauses when the number of steps since the last pause reaches the"
                + " stamina: the number of minutes for which the walker rests becomes 1, the number of steps since the last"
                + " pause becomes 0, and the other steps of this minute are not tried.");
        int[][] due = {{1, 1, 0}, {2, 1, 0}, {3, 1, 0}, {4, 1, 0}, {4, 0, 4}, {4, 0, 4}};
        for (int stamina = 1; stamina <= 6; stamina++) {
            MoonlitFloor floor = after("floor 2 10;light 20;pace 4;stamina " + stamina, 1);
            Check.due("steps, stamina " + stamina, floor.totalSteps(), due[stamina - 1][0]);
            Check.due("restRemaining, stamina " + stamina, floor.restRemaining(), due[stamina - 1][1]);
            Check.due("stepsSincePause, stamina " + stamina, floor.stepsSincePause(), due[stamina - 1][2]);
        }
        MoonlitFloor five = after("floor 2 10;light 20;pace 4;stamina 5", 2);
        Check.due("the fifth step", five.totalSteps(), 5);
        Check.due("restRemaining after the fifth step", five.restRemaining(), 1);
        five.advance(1);
        Check.due("restRemaining after the pause", five.restRemaining(), 0);
        Check.due("steps after the pause", five.totalSteps(), 5);
        five.advance(1);
        Check.due("steps after that", five.totalSteps(), 9);
    }

    private static void longestStamina() {
        Sentence.term("The stamina is 0 to 99.");
        // 9 steps and a turn by turns: 98 steps and 10 turns in 108 minutes
        MoonlitFloor floor = after("floor 2 10;light 20;stamina 99", 108);
        Check.due("stepsSincePause before the 99th step", floor.stepsSincePause(), 98);
        Check.due("restRemaining before the 99th step", floor.restRemaining(), 0);
        floor.advance(1);
        Check.due("totalSteps", floor.totalSteps(), 99);
        Check.due("stepsSincePause after the 99th step", floor.stepsSincePause(), 0);
        Check.due("restRemaining after the 99th step", floor.restRemaining(), 1);
        floor.advance(1);
        Check.due("turns after the pause", floor.turnCount(), 10);
        floor.advance(1);
        Check.due("turns a minute later", floor.turnCount(), 11);
        Check.error("floor 2 10;stamina 100", MoonlitFloor.RANGE_ERROR, 19);
    }

    private static void noPauses() {
        Sentence.term("If the stamina is 0, the walker never pauses.");
        MoonlitFloor floor = Check.floor("floor 2 10;light 20;stamina 0");
        for (int minutes = 1; minutes <= 120; minutes++) {
            floor.advance(1);
            Check.due("restRemaining after " + minutes, floor.restRemaining(), 0);
        }
        Check.due("stepsSincePause of 120 minutes", floor.stepsSincePause(), 108);
    }

    private static void whenRelocated() {
        Sentence.term("The walker is relocated if the moon shines and the walker is off the floor or stands on a tile that is not"
                + " lit.");
        Check.due("off the floor", after("floor 2 2;light 5;cloud 0 0", 1).walkerTile(), 0);
        Check.due("off the floor, and no moon", after("floor 2 2;light 5;cloud 0 1", 1).walkerTile(), -1);
        Check.due("on the row before", after("floor 2 2;light 1;curtain 1", 1).walkerTile(), 2);
        Check.due("on the row before, and no moon", after("floor 2 2;light 1;curtain 1;cloud 1 1", 1).walkerTile(), 0);
        Check.due("under a curtain", after("floor 2 3;light 5;close 0 1", 1).walkerTile(), 2);
        Check.due("under a curtain, and no moon", after("floor 2 3;light 5;cloud 1 1;close 0 1", 1).walkerTile(), 0);
        Check.due("on a lit tile with a spill", after("floor 2 3;light 5;curtain 1;open 1;close 1;spill 0 9", 1)
                .walkerTile(), 0);
    }

    private static void nearestColumn() {
        Sentence.term("The new tile is the lit tile without a spill whose column is nearest to the remembered column; if two are"
                + " equally near, it is the left one.");
        String floor = "floor 2 10;walker 4 right;curtain ";
        Check.due("its own column", Check.floor(floor + "0 1 2 9").walkerTile(), 4);
        Check.due("columns 3 and 5", Check.floor(floor + "4").walkerTile(), 3);
        Check.due("columns 2 and 5", Check.floor(floor + "4 3").walkerTile(), 5);
        Check.due("columns 0 and 8", Check.floor(floor + "1 2 3 4 5 6 7 9").walkerTile(), 0);
        Check.due("columns 0 and 7", Check.floor(floor + "1 2 3 4 5 6 8 9").walkerTile(), 7);
        Check.due("columns 1 and 8", Check.floor(floor + "0 2 3 4 5 6 7 9").walkerTile(), 1);
        Check.due("column 0 alone", Check.floor(floor + "1 2 3 4 5 6 7 8 9").walkerTile(), 0);
        Check.due("column 9 alone", Check.floor(floor + "0 1 2 3 4 5 6 7 8").walkerTile(), 9);
        Check.due("from column 0 to column 9",
                Check.floor("floor 2 10;walker 0 right;curtain 0 1 2 3 4 5 6 7 8").walkerTile(), 9);
        Check.due("from column 9 to column 0",
                Check.floor("floor 2 10;walker 9 right;curtain 1 2 3 4 5 6 7 8 9").walkerTile(), 0);
    }

    private static void nearestDryTile() {
        Sentence.term("The new tile is the lit tile without a spill whose column is nearest to the remembered column;");
        // off the floor by the cloud of minute 0, and relocated to row 1 after it
        String floor = "floor 2 5;light 1;cloud 0 0;walker 2 right";
        String[] spills = {"", ";spill 7 9", ";spill 6 9", ";spill 8 9", ";spill 5 9", ";spill 9 9"};
        int[] due = {7, 6, 8, 5, 9, -1};
        for (int count = 0; count < due.length; count++) {
            floor += spills[count];
            Check.due("walkerTile with " + count + " spills", after(floor, 1).walkerTile(), due[count]);
        }
        Check.due("a spill that dries in this minute",
                after("floor 2 5;light 1;cloud 0 0;walker 2 right;spill 7 1", 1).walkerTile(), 7);
        Check.due("a spill that does not",
                after("floor 2 5;light 1;cloud 0 0;walker 2 right;spill 7 2", 1).walkerTile(), 6);
    }

    private static void noLitTile() {
        Sentence.term("If there is no lit tile without a spill, the walker is off the floor and the remembered column stays the"
                + " same.");
        MoonlitFloor never = Check.floor("floor 2 5;light 9;walker 3 left;curtain 0 1 2 3 4");
        Check.due("walkerTile without light", never.walkerTile(), -1);
        never.setCurtain(0, false);
        never.setCurtain(4, false);
        never.advance(1);
        Check.due("nearest to column 3", never.walkerTile(), 4);
        // a step to column 2, and then a row full of spills
        MoonlitFloor floor = after("floor 2 5;light 1;walker 3 left;spill 5 9;spill 6 9;spill 7 9;spill 8 9;spill 9 9", 1);
        Check.due("walkerTile without a dry tile", floor.walkerTile(), -1);
        Check.due("totalSteps", floor.totalSteps(), 1);
        floor.advance(1);
        Check.due("walkerTile of the next night", floor.walkerTile(), 2);
    }

    private static void relocationIsNoStep() {
        Sentence.term("Relocation is not a step.");
        MoonlitFloor floor = after("floor 2 2;light 1;curtain 1", 1);
        Check.due("walkerTile", floor.walkerTile(), 2);
        Check.due("totalSteps", floor.totalSteps(), 0);
        Check.due("stepsTonight", floor.stepsTonight(), 0);
        Check.due("stepsSincePause", floor.stepsSincePause(), 0);
        Check.due("wear", floor.wear(2), 0);
        Check.due("averageWear", floor.averageWear(), 0.0);
    }

    // ---- section 4

    private static void path(String setup, int... stops) {
        MoonlitFloor floor = Check.floor(setup);
        int minute = 0;
        for (int i = 0; i < stops.length; i += 2) {
            while (minute < stops[i]) {
                floor.advance(1);
                minute++;
            }
            Check.due("catTile after " + minute + " of " + setup, floor.catTile(), stops[i + 1]);
        }
    }

    private static void longestRoute() {
        Sentence.term("The cat stands on a tile and has a route of 0 to 30 moves.");
        String route = " right".repeat(9) + " left".repeat(9) + " right".repeat(9) + " stay stay down";
        // the 30th move leads down; then come nine at the right edge, and so on
        path("floor 3 10;night 0;cat 0" + route, 0, 0, 1, 1, 9, 9, 10, 8, 18, 0, 27, 9, 29, 9, 30, 19, 31, 19, 39, 19, 40, 18,
                48, 10, 57, 19, 59, 19, 60, 29, 90, 29);
    }

    private static void shortestRoutes() {
        Sentence.term("In each minute it makes the next move of its route; after the last move comes the first one again.");
        path("floor 2 4;cat 0", 0, 0, 1, 0, 2, 0);
        path("floor 2 4;cat 0 right", 0, 0, 1, 1, 2, 2, 3, 3, 4, 3);
        path("floor 2 4;cat 0 right down", 1, 1, 2, 5, 3, 6, 4, 6, 5, 7);
        path("floor 2 4;night 0;cat 0 down right up", 1, 4, 2, 5, 3, 1, 4, 5, 5, 6, 6, 2);
    }

    private static void edgesOfTheCat() {
        Sentence.term("A move up, down, left or right leads to the neighboring tile; the cat stays if there is no such tile or"
                + " there is a spill on it.");
        String[] moves = {"up", "down", "left", "right", "stay"};
        int[][] due = {{0, 1, 2, 0, 1, 2, 3, 4, 5}, {3, 4, 5, 6, 7, 8, 6, 7, 8}, {0, 0, 1, 3, 3, 4, 6, 6, 7},
            {1, 2, 2, 4, 5, 5, 7, 8, 8}, {0, 1, 2, 3, 4, 5, 6, 7, 8}};
        for (int move = 0; move < moves.length; move++) {
            for (int tile = 0; tile < 9; tile++) {
                Check.due(moves[move] + " from " + tile,
                        after("floor 3 3;night 0;cat " + tile + " " + moves[move], 1).catTile(), due[move][tile]);
            }
        }
        path("floor 8 10;night 0;cat 79 down right up left", 1, 79, 2, 79, 3, 69, 4, 68);
    }

    private static void spillBeforeTheCat() {
        Sentence.term("the cat stays if there is no such tile or there is a spill on it.");
        path("floor 2 3;night 0;cat 0 right;spill 1 1", 1, 0, 2, 1, 3, 2);
        path("floor 2 3;night 0;cat 0 right;spill 1 2", 1, 0, 2, 0, 3, 1);
        path("floor 2 3;night 0;cat 0 right;rug 1;spill 1 2", 1, 0, 2, 1);
        path("floor 2 3;night 0;cat 0 down;spill 3 1", 1, 0, 2, 3);
        path("floor 2 3;night 0;cat 4 up;spill 1 1", 1, 4, 2, 1);
        path("floor 2 3;night 0;cat 4 left;spill 3 1", 1, 4, 2, 3);
        // the move that was held back is not made up for
        path("floor 2 3;night 0;cat 0 right down;spill 1 1", 1, 0, 2, 3, 3, 4, 4, 4);
        // a spill under the cat holds nothing back
        path("floor 2 3;night 0;cat 0 right;spill 0 9", 1, 1);
    }

    private static void catWithoutMoves() {
        Sentence.term("A cat whose route has no moves stays on its tile and never spills a bowl.");
        MoonlitFloor none = after("floor 2 2;night 0;cat 3;bowl 3", 300);
        Check.due("catTile", none.catTile(), 3);
        Check.due("hasBowl", none.hasBowl(3), true);
        MoonlitFloor one = after("floor 2 2;night 0;cat 3 stay;bowl 3", 1);
        Check.due("hasBowl after one move", one.hasBowl(3), false);
        MoonlitFloor nobody = after("floor 2 2;night 0;bowl 0 3", 9);
        Check.due("catTile without a cat", nobody.catTile(), -1);
        Check.due("bowls without a cat", nobody.hasBowl(0) && nobody.hasBowl(3), true);
    }

    private static void spilledBowl() {
        Sentence.term("If there is a bowl on the tile of the cat after a move of its route, the bowl is removed and there is a"
                + " spill on this tile, whose number of minutes is the drying time.");
        int[] times = {1, 2, 99};
        for (int time : times) {
            MoonlitFloor floor = after("floor 2 4;night 0;drying " + time + ";cat 0 right;bowl 0 1 2", 1);
            Check.due("hasBowl on the tile that it left", floor.hasBowl(0), true);
            Check.due("hasBowl on its tile", floor.hasBowl(1), false);
            Check.due("hasBowl on the tile before it", floor.hasBowl(2), true);
            Check.due("spillTime at the end of that minute", floor.spillTime(1), time - 1);
        }
        String[] held = {"cat 0 left;bowl 0", "cat 0 up;bowl 0", "cat 0 right;spill 1 1;bowl 0", "cat 0 stay;bowl 0"};
        for (String setup : held) {
            MoonlitFloor floor = after("floor 2 4;night 0;" + setup, 1);
            Check.due("hasBowl after " + setup, floor.hasBowl(0), false);
            Check.due("spillTime after " + setup, floor.spillTime(0), 9);
        }
        Check.due("no bowl, no spill", after("floor 2 4;night 0;cat 0 right", 1).spillCount(), 0);
    }

    private static void fall() {
        Sentence.term("If the walker stands on this tile, the walker falls: the number of minutes for which the walker rests"
                + " becomes the rest time, even if the walker was resting (also if it was greater before), and the number of"
                + " steps since the last pause becomes 0.");
        // what is left after the minute of the fall itself
        int[] left = {0, 0, 1, 2, 3, 4, 5, 6, 7, 8};
        for (int rest = 0; rest <= 9; rest++) {
            MoonlitFloor floor = after("floor 2 4;light 20;rest " + rest + ";cat 6 stay stay up;bowl 2", 3);
            Check.due("fallCount, rest " + rest, floor.fallCount(), 1);
            Check.due("restRemaining, rest " + rest, floor.restRemaining(), left[rest]);
            Check.due("walkerTile, rest " + rest, floor.walkerTile(), rest == 0 ? 3 : 2);
            Check.due("stepsSincePause, rest " + rest, floor.stepsSincePause(), rest == 0 ? 1 : 0);
            Check.due("totalSteps, rest " + rest, floor.totalSteps(), rest == 0 ? 3 : 2);
            Check.due("facesRight, rest " + rest, floor.facesRight(), true);
        }
        Check.due("beside the walker", after("floor 2 4;light 20;cat 6 stay stay up;bowl 6", 3).fallCount(), 0);
    }

    private static void fallWhileResting() {
        Sentence.term("even if the walker was resting (also if it was greater before)");
        MoonlitFloor again = after("floor 2 3;light 20;drying 1;rest 5;cat 0 stay;bowl 0", 1);
        Check.due("restRemaining after a fall", again.restRemaining(), 4);
        again.placeBowl(0);
        again.advance(1);
        Check.due("fallCount", again.fallCount(), 2);
        Check.due("restRemaining after the next fall", again.restRemaining(), 4);
        // the pause of 1 minute becomes a rest of 0, so that the walker goes on in this minute
        MoonlitFloor less = after("floor 2 9;light 20;stamina 1;rest 0;cat 10 stay up;bowl 1", 1);
        Check.due("restRemaining in the pause", less.restRemaining(), 1);
        less.advance(1);
        Check.due("fallCount", less.fallCount(), 1);
        Check.due("totalSteps", less.totalSteps(), 2);
    }

    private static void noiseRange() {
        Sentence.term("If the walker stands on another tile, and the distance of both tiles is not greater than the noise range,"
                + " the walker is startled:");
        // startled to the left the walker turns at the edge; otherwise there is a step to the right
        int[] cats = {1, 2, 9, 10, 11, 79, 70};
        int[] distances = {1, 2, 9, 1, 2, 16, 7};
        for (int i = 0; i < cats.length; i++) {
            boolean sameColumn = cats[i] % 10 == 0;
            for (int noise = distances[i] - 1; noise <= distances[i]; noise++) {
                boolean startled = noise == distances[i] && !sameColumn;
                String setup = "floor 8 10;light 20;noise " + noise + ";cat " + cats[i] + " stay;bowl " + cats[i];
                MoonlitFloor floor = after(setup, 1);
                boolean wet = cats[i] == 1;
                Check.due("walkerTile of " + setup, floor.walkerTile(), startled || wet ? 0 : 1);
                Check.due("facesRight of " + setup, floor.facesRight(), startled || !wet);
            }
        }
        Check.due("noise 20", after("floor 8 10;light 20;noise 20;cat 79 stay;bowl 79", 1).turnCount(), 1);
        Check.due("noise 0", after("floor 8 10;light 20;noise 0;cat 2 stay;bowl 2", 1).turnCount(), 0);
        MoonlitFloor off = after("floor 8 10;night 0;noise 20;walker 0 right;cat 79 stay;bowl 79", 1);
        Check.due("off the floor", off.facesRight(), true);
    }

    private static void distance() {
        Sentence.term("The distance is the sum of the differences of the rows and of the columns, without their signs.");
        // the walker stands in row 2 and column 2 of 5, and goes to the left if nothing startles
        int[] cats = {0, 5, 6, 10, 15, 16, 20, 21};
        int[] distances = {4, 3, 2, 2, 3, 2, 4, 3};
        for (int i = 0; i < cats.length; i++) {
            for (int noise = distances[i] - 1; noise <= distances[i]; noise++) {
                String setup = "floor 5 5;light 2;cloud 0 3;walker 2 left;noise " + noise + ";cat " + cats[i]
                        + " stay;advance 4;bowl " + cats[i] + ";advance 1";
                Check.due("walkerTile of " + setup, Check.floor(setup).walkerTile(), noise == distances[i] ? 13 : 11);
            }
        }
    }

    private static void directionOfTheStartled() {
        Sentence.term("the walker faces right if the column of the cat is less than the column of the walker, left if it is"
                + " greater, and keeps the direction if both are equal.");
        int[] cats = {6, 7, 8};
        int[] fromRight = {3, 3, 1};
        int[] fromLeft = {3, 1, 1};
        for (int i = 0; i < cats.length; i++) {
            String cat = ";noise 2;cat " + cats[i] + " stay;bowl " + cats[i];
            Check.due("facing right, cat at " + cats[i],
                    after("floor 2 5;light 20;walker 2 right" + cat, 1).walkerTile(), fromRight[i]);
            Check.due("facing left, cat at " + cats[i],
                    after("floor 2 5;light 20;walker 2 left" + cat, 1).walkerTile(), fromLeft[i]);
        }
    }

    private static void restingAndStartled() {
        Sentence.term("This is not counted as a turn, and it happens to a resting walker, too.");
        MoonlitFloor floor = after("floor 2 9;light 20;noise 9;stamina 1;cat 17 stay left;bowl 16", 1);
        Check.due("restRemaining", floor.restRemaining(), 1);
        Check.due("facesRight in the pause", floor.facesRight(), true);
        floor.advance(1);
        Check.due("facesRight after the noise", floor.facesRight(), false);
        Check.due("turnCount", floor.turnCount(), 0);
        Check.due("restRemaining after the noise", floor.restRemaining(), 0);
        Check.due("walkerTile", floor.walkerTile(), 1);
    }

    // ---- section 5

    private static void catMovesFirst() {
        Sentence.term("First, the cat makes its move. Second, the walker tries the steps of this minute one after the other,"
                + " unless off the floor or resting;");
        // the spill of this minute holds the walker back, who can't be on the tile when the bowl is spilled
        MoonlitFloor floor = after("floor 2 3;light 20;cat 4 up;bowl 1", 1);
        Check.due("fallCount", floor.fallCount(), 0);
        Check.due("turnCount", floor.turnCount(), 1);
        Check.due("walkerTile", floor.walkerTile(), 0);
        // the cat reaches the tile in the minute after the step
        Check.due("fallCount a minute later", after("floor 2 3;light 20;cat 4 stay up;bowl 1", 2).fallCount(), 1);
    }

    private static void restInsteadOfSteps() {
        Sentence.term("if the walker rests, the number of minutes for which the walker rests becomes 1 less instead.");
        MoonlitFloor floor = after("floor 2 3;light 20;rest 1;cat 0 stay;bowl 0", 1);
        Check.due("restRemaining", floor.restRemaining(), 0);
        Check.due("totalSteps in the minute of the fall", floor.totalSteps(), 0);
        Check.due("steps of the next minute", floor.advance(1), 1);
        MoonlitFloor dark = after("floor 2 3;light 20;cloud 1 39;rest 9;cat 0 stay;bowl 0", 9);
        Check.due("restRemaining without the moon", dark.restRemaining(), 0);
        MoonlitFloor off = after("floor 2 3;light 20;rest 9;cat 0 stay;bowl 0;close 0 1 2", 8);
        Check.due("walkerTile", off.walkerTile(), -1);
        Check.due("restRemaining off the floor", off.restRemaining(), 1);
        off.advance(2);
        Check.due("restRemaining is not less than 0", off.restRemaining(), 0);
    }

    private static void newSpillsDry() {
        Sentence.term("Third, all spills dry, also new ones.");
        Check.due("drying 1", after("floor 2 2;night 0;drying 1;cat 0 stay;bowl 0", 1).spillTime(0), 0);
        Check.due("drying 2", after("floor 2 2;night 0;drying 2;cat 0 stay;bowl 0", 1).spillTime(0), 1);
        Check.due("drying 2 under a rug", after("floor 2 2;night 0;drying 2;rug 0;cat 0 stay;bowl 0", 1).spillTime(0), 0);
        Check.due("drying 3 under a rug", after("floor 2 2;night 0;drying 3;rug 0;cat 0 stay;bowl 0", 1).spillTime(0), 1);
        Check.due("a new one and two that were there",
                after("floor 2 4;night 0;drying 2;cat 0 stay;bowl 0;spill 3 2;spill 7 1", 1).spillCount(), 2);
    }

    private static void endOfTheNight() {
        Sentence.term("Fourth, the minute becomes 1 greater. If the night is over, the night ends.");
        MoonlitFloor floor = after("floor 2 2;light 2", 3);
        Check.due("minute", floor.minute(), 3);
        Check.due("night", floor.night(), 15);
        Check.due("recordCount", floor.recordCount(), 0);
        floor.advance(1);
        Check.due("minute", floor.minute(), 0);
        Check.due("night", floor.night(), 16);
        Check.due("recordCount", floor.recordCount(), 1);
    }

    private static void curtainsOfTheNewMinute() {
        Sentence.term("Fifth, the curtain of each column whose draught has a period that divides the new minute (0 is divided by"
                + " every period) is closed if it was open, and opened if it was closed (so this does not happen before the first"
                + " minute of the simulation).");
        Check.due("period 3 in nights of 4 minutes", closed("floor 2 2;light 2;draught 0 3", 12), "oooc" + "oooc" + "oooc");
        Check.due("period 4 in nights of 4 minutes", closed("floor 2 2;light 2;draught 0 4", 12), "oooo" + "cccc" + "oooo");
        Check.due("period 60 in nights of 2 minutes", closed("floor 2 2;light 1;draught 0 60", 6), "oo" + "cc" + "oo");
        Check.due("period 3 of a closed curtain", closed("floor 2 2;light 2;curtain 0;draught 0 3", 8), "ccco" + "ccco");
        MoonlitFloor floor = after("floor 2 3;light 20;draught 0 3;draught 1 2;draught 2 6", 6);
        Check.due("column 0 after 6", floor.isCurtainClosed(0), false);
        Check.due("column 1 after 6", floor.isCurtainClosed(1), true);
        Check.due("column 2 after 6", floor.isCurtainClosed(2), true);
    }

    private static void relocatedAtLast() {
        Sentence.term("Sixth, the walker is relocated if section 3 requires it.");
        Check.due("before the draught", after("floor 2 3;light 20;draught 1 2;draught 2 2;pace 1", 1).walkerTile(), 1);
        Check.due("after the draught", after("floor 2 3;light 20;draught 1 2;draught 2 2;pace 1", 2).walkerTile(), 0);
        Check.due("after the draught has opened", after("floor 2 3;light 20;curtain 0 1 2;draught 2 2", 2).walkerTile(), 2);
        Check.due("before the draught has opened", after("floor 2 3;light 20;curtain 0 1 2;draught 2 2", 1).walkerTile(), -1);
        Check.due("the first row of the next night", after("floor 2 2;light 1;curtain 1", 2).walkerTile(), 0);
    }

    private static void nightWithoutSteps() {
        Sentence.term("When a night ends in which the walker made at least one step, it becomes a record with its number of"
                + " steps.");
        MoonlitFloor none = after("floor 2 2;light 1;curtain 1", 2);
        Check.due("recordCount without a step", none.recordCount(), 0);
        Check.due("turnCount", none.turnCount(), 2);
        MoonlitFloor one = after("floor 2 2;light 1", 2);
        Check.due("records with one step", Check.records(one), "15:1");
        Check.due("records before the end", Check.records(after("floor 2 2;light 1", 1)), "-");
        Check.due("a dark night after it", Check.records(after("floor 2 2;light 1;night 29", 4)), "29:1");
    }

    /** In a night of two minutes and two columns, as many steps as turns: as many as the pace. */
    private static void night(MoonlitFloor floor, int pace) {
        floor.setPace(pace);
        floor.advance(2);
    }

    private static void orderOfRecords() {
        Sentence.term("Records are sorted by the number of steps in descending order; if two are equal, the earlier night comes"
                + " first.");
        MoonlitFloor floor = Check.floor("floor 2 2;light 1;night 8");
        int[] paces = {2, 1, 3, 2, 1, 3};
        String[] due = {"8:2", "8:2 9:1", "10:3 8:2 9:1", "10:3 8:2 11:2 9:1", "10:3 8:2 11:2 9:1 12:1",
            "10:3 13:3 8:2 11:2 9:1 12:1"};
        for (int i = 0; i < paces.length; i++) {
            night(floor, paces[i]);
            Check.due("records after " + (i + 1) + " nights", Check.records(floor), due[i]);
        }
    }

    private static void tenRecords() {
        Sentence.term("Only the first 10 records are kept.");
        MoonlitFloor floor = Check.floor("floor 2 2;light 1;night 8");
        for (int i = 0; i < 9; i++) {
            night(floor, 1 + i % 3);
        }
        Check.due("9 records", Check.records(floor), "10:3 13:3 16:3 9:2 12:2 15:2 8:1 11:1 14:1");
        night(floor, 1);
        String ten = "10:3 13:3 16:3 9:2 12:2 15:2 8:1 11:1 14:1 17:1";
        Check.due("10 records", Check.records(floor), ten);
        night(floor, 1);
        Check.due("an 11th, equal to the last", Check.records(floor), ten);
        night(floor, 2);
        Check.due("a better one", Check.records(floor), "10:3 13:3 16:3 9:2 12:2 15:2 19:2 8:1 11:1 14:1");
        night(floor, 3);
        Check.due("a better one still", Check.records(floor), "10:3 13:3 16:3 20:3 9:2 12:2 15:2 19:2 8:1 11:1");
        Check.due("recordCount", floor.recordCount(), 10);
    }

    private static void nextNight() {
        Sentence.term("Then the number of the night becomes 1 greater, the minute becomes 0, and the number of steps of the night"
                + " becomes 0.");
        MoonlitFloor floor = after("floor 2 2;light 2;pace 2", 3);
        Check.due("stepsTonight in the last minute", floor.stepsTonight(), 3);
        floor.advance(1);
        Check.due("night", floor.night(), 16);
        Check.due("minute", floor.minute(), 0);
        Check.due("stepsTonight", floor.stepsTonight(), 0);
        Check.due("totalSteps", floor.totalSteps(), 4);
        Check.due("recordSteps", floor.recordSteps(0), 4);
    }
}
