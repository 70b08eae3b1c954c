/** Promises 20 to 31, and section 3: the walker. */
final class WalkerTest {
    private WalkerTest() {
    }

    public static void main(String[] args) {
        withoutSetup();
        paceAndTries();
        pacing();
        obstacles();
        stamina();
        falls();
        fallOfRestingWalker();
        restOffTheFloor();
        relocation();
        relocationIsNoStep();
        blockReason();
        wear();
        Check.end();
    }

    private static void withoutSetup() {
        MoonlitFloor floor = new MoonlitFloor();
        Check.noSetup("pace", floor::pace);
        Check.noSetup("stepsPerMinute", floor::stepsPerMinute);
        Check.noSetup("walkerTile", floor::walkerTile);
        Check.noSetup("facesRight", floor::facesRight);
        Check.noSetup("restRemaining", floor::restRemaining);
        Check.noSetup("stepsSincePause", floor::stepsSincePause);
        Check.noSetup("totalSteps", floor::totalSteps);
        Check.noSetup("stepsTonight", floor::stepsTonight);
        Check.noSetup("turnCount", floor::turnCount);
        Check.noSetup("fallCount", floor::fallCount);
        Check.noSetup("blockReason", floor::blockReason);
        Check.noSetup("wear", () -> floor.wear(-1));
    }

    /** Promises 20 and 21. */
    private static void paceAndTries() {
        for (int pace = 1; pace <= 5; pace++) {
            MoonlitFloor floor = Check.floor("floor 2 2;pace " + pace);
            Check.due("pace", floor.pace(), pace);
            Check.due("stepsPerMinute", floor.stepsPerMinute(), Math.min(4, pace));
        }
        int[] nights = {0, 1, 3, 4, 7, 8, 11, 12, 15, 18, 19, 22, 23, 26, 27, 29, 30};
        int[] due = {0, 1, 1, 2, 2, 3, 3, 4, 4, 4, 3, 3, 2, 2, 1, 1, 0};
        for (int i = 0; i < nights.length; i++) {
            Check.due("stepsPerMinute in night " + nights[i],
                    Check.floor("floor 2 2;pace 5;night " + nights[i]).stepsPerMinute(), due[i]);
        }
        Check.due("stepsPerMinute by cloud", Check.floor("floor 2 2;pace 5;cloud 0 0").stepsPerMinute(), 0);
        MoonlitFloor off = Check.floor("floor 2 2;pace 3;curtain 0 1");
        Check.due("stepsPerMinute off the floor", off.stepsPerMinute(), 3);
    }

    private static void state(MoonlitFloor floor, int tile, boolean right, int total, int turns) {
        Check.due("walkerTile in minute " + floor.minute(), floor.walkerTile(), tile);
        Check.due("facesRight in minute " + floor.minute(), floor.facesRight(), right);
        Check.due("totalSteps in minute " + floor.minute(), floor.totalSteps(), total);
        Check.due("turnCount in minute " + floor.minute(), floor.turnCount(), turns);
    }

    /** Promises 22, 23, 26, 27 and 28. */
    private static void pacing() {
        MoonlitFloor floor = Check.floor("floor 2 4;light 3;pace 2;walker 1 right");
        state(floor, 1, true, 0, 0);
        floor.advance(1);
        state(floor, 3, true, 2, 0);
        floor.advance(1);
        state(floor, 2, false, 3, 1);
        floor.advance(1);
        state(floor, 4, false, 5, 1);
        floor.advance(1);
        state(floor, 5, true, 6, 2);
        floor.advance(1);
        state(floor, 7, true, 8, 2);
        Check.due("stepsTonight", floor.stepsTonight(), 8);
        Check.due("stepsSincePause", floor.stepsSincePause(), 8);
        floor.advance(1);
        state(floor, 2, false, 9, 3);
        Check.due("stepsTonight in a new night", floor.stepsTonight(), 0);
        Check.due("stepsSincePause in a new night", floor.stepsSincePause(), 9);
        floor.turnWalker();
        Check.due("turnCount after turnWalker", floor.turnCount(), 3);
        floor.advance(1);
        state(floor, 3, false, 10, 4);
        Check.due("stepsTonight", floor.stepsTonight(), 1);
        MoonlitFloor cloudy = Check.floor("floor 2 4;light 10;pace 3;walker 1 left;cloud 1 2");
        cloudy.advance(1);
        state(cloudy, 1, true, 2, 1);
        cloudy.advance(2);
        state(cloudy, 1, true, 2, 1);
        cloudy.advance(1);
        state(cloudy, 3, false, 4, 2);
    }

    private static void obstacles() {
        MoonlitFloor curtain = Check.floor("floor 2 5;light 20;curtain 3");
        curtain.advance(3);
        state(curtain, 2, false, 2, 1);
        MoonlitFloor spill = Check.floor("floor 2 5;light 20;spill 3 4");
        spill.advance(3);
        state(spill, 2, false, 2, 1);
        spill.turnWalker();
        spill.advance(1);
        state(spill, 2, false, 2, 2);
        spill.turnWalker();
        spill.advance(1);
        state(spill, 3, true, 3, 2);
        MoonlitFloor shut = Check.floor("floor 2 3;light 20;pace 4;walker 1 right;curtain 0 2");
        shut.advance(2);
        state(shut, 1, true, 0, 8);
        MoonlitFloor things = Check.floor("floor 2 5;light 20;rug 3;cat 2;bowl 1");
        things.advance(4);
        state(things, 4, true, 4, 0);
        MoonlitFloor behind = Check.floor("floor 2 5;light 20;walker 2 right;close 2");
        Check.due("the curtain of the walker's own column", behind.advance(1), 1);
        MoonlitFloor wet = Check.floor("floor 2 5;light 20;walker 2 right;spill 2 50");
        wet.advance(1);
        state(wet, 3, true, 1, 0);
    }

    /** Promises 24 and 25. */
    private static void stamina() {
        MoonlitFloor floor = Check.floor("floor 2 5;light 20;pace 4;stamina 3");
        floor.advance(1);
        state(floor, 3, true, 3, 0);
        Check.due("restRemaining in a pause", floor.restRemaining(), 1);
        Check.due("stepsSincePause in a pause", floor.stepsSincePause(), 0);
        Check.due("steps of a resting walker", floor.advance(1), 0);
        state(floor, 3, true, 3, 0);
        Check.due("restRemaining after a pause", floor.restRemaining(), 0);
        floor.advance(1);
        state(floor, 2, false, 6, 1);
        Check.due("restRemaining in the next pause", floor.restRemaining(), 1);
        MoonlitFloor tired = Check.floor("floor 2 5;light 20;pace 2;stamina 3");
        tired.advance(1);
        Check.due("stepsSincePause", tired.stepsSincePause(), 2);
        Check.due("restRemaining", tired.restRemaining(), 0);
        Check.due("the third step", tired.advance(1), 1);
        Check.due("stepsSincePause", tired.stepsSincePause(), 0);
        MoonlitFloor turning = Check.floor("floor 2 2;light 20;pace 4;stamina 2");
        turning.advance(1);
        Check.due("turns are no steps", turning.turnCount(), 1);
        Check.due("restRemaining", turning.restRemaining(), 1);
        MoonlitFloor never = Check.floor("floor 2 2;light 20;stamina 0;pace 4;advance 300");
        Check.due("stepsSincePause without pauses", never.stepsSincePause(), never.totalSteps());
        MoonlitFloor most = Check.floor("floor 2 2;light 20;stamina 99;advance 196");
        Check.due("stepsSincePause before the 99th", most.stepsSincePause(), 98);
        Check.due("restRemaining before the 99th", most.restRemaining(), 0);
        most.advance(1);
        Check.due("stepsSincePause after the 99th", most.stepsSincePause(), 0);
        Check.due("restRemaining after the 99th", most.restRemaining(), 1);
    }

    /** Promises 24 and 29. */
    private static void falls() {
        MoonlitFloor floor = Check.floor("floor 2 3;light 20;rest 3;cat 0 stay;bowl 0");
        int[] rest = {2, 1, 0, 0};
        int[] tile = {0, 0, 0, 1};
        for (int i = 0; i < 4; i++) {
            floor.advance(1);
            Check.due("restRemaining after " + i, floor.restRemaining(), rest[i]);
            Check.due("walkerTile after " + i, floor.walkerTile(), tile[i]);
            Check.due("fallCount after " + i, floor.fallCount(), 1);
        }
        MoonlitFloor longest = Check.floor("floor 2 3;light 20;rest 9;cat 0 stay;bowl 0;advance 1");
        Check.due("restRemaining", longest.restRemaining(), 8);
        MoonlitFloor swift = Check.floor("floor 2 3;light 20;rest 0;cat 0 stay;bowl 0;advance 1");
        Check.due("walks on at once", swift.walkerTile(), 1);
        Check.due("restRemaining", swift.restRemaining(), 0);
        // two steps, then a fall
        MoonlitFloor counted = Check.floor("floor 2 4;light 20;stamina 3;cat 6 stay stay up;bowl 2");
        counted.advance(2);
        Check.due("stepsSincePause before the fall", counted.stepsSincePause(), 2);
        counted.advance(1);
        Check.due("fallCount", counted.fallCount(), 1);
        Check.due("stepsSincePause after the fall and a step", counted.stepsSincePause(), 1);
        Check.due("no fall on another tile",
                Check.floor("floor 2 3;light 20;cat 1 stay;bowl 1;advance 1").fallCount(), 0);
        Check.due("no fall off the floor",
                Check.floor("floor 2 3;light 20;night 0;cat 0 stay;bowl 0;advance 1").fallCount(), 0);
    }

    private static void fallOfRestingWalker() {
        // the pause of the first minute ends with the fall, whose rest time is 0
        MoonlitFloor floor = Check.floor("floor 2 5;light 20;stamina 1;cat 6 stay up;bowl 1");
        floor.advance(1);
        Check.due("restRemaining in the pause", floor.restRemaining(), 1);
        floor.advance(1);
        Check.due("fallCount", floor.fallCount(), 1);
        Check.due("walkerTile", floor.walkerTile(), 2);
        Check.due("totalSteps", floor.totalSteps(), 2);
        MoonlitFloor longer = Check.floor("floor 2 5;light 20;rest 5;stamina 1;cat 6 stay up;bowl 1;advance 2");
        Check.due("restRemaining after a fall in a pause", longer.restRemaining(), 4);
    }

    private static void restOffTheFloor() {
        // fallen in the first minute; the curtains close before the next row
        MoonlitFloor floor = Check.floor("floor 2 2;light 2;rest 6;cat 0 stay;bowl 0;close 0 1;advance 2");
        Check.due("walkerTile", floor.walkerTile(), -1);
        Check.due("restRemaining", floor.restRemaining(), 4);
        floor.advance(1);
        Check.due("restRemaining off the floor", floor.restRemaining(), 3);
        floor.setCurtain(1, false);
        floor.advance(1);
        Check.due("walkerTile", floor.walkerTile(), 1);
        Check.due("restRemaining", floor.restRemaining(), 2);
    }

    private static void relocation() {
        Check.due("of two the left one", Check.floor("floor 2 5;walker 2 right;curtain 2").walkerTile(), 1);
        Check.due("the nearer one", Check.floor("floor 2 5;walker 2 right;curtain 2 1").walkerTile(), 3);
        Check.due("the right one", Check.floor("floor 2 5;walker 2 right;curtain 2 1 0").walkerTile(), 3);
        Check.due("the farthest one", Check.floor("floor 2 5;walker 0 right;curtain 0 1 2 3").walkerTile(), 4);
        Check.due("the farthest one", Check.floor("floor 2 5;walker 4 right;curtain 4 1 2 3").walkerTile(), 0);
        MoonlitFloor spill = Check.floor("floor 2 5;light 1;spill 6 9;advance 1");
        Check.due("past a spill", spill.walkerTile(), 5);
        MoonlitFloor kept = Check.floor("floor 2 4;light 9;walker 2 left;curtain 0 1 2 3");
        Check.due("off the floor", kept.walkerTile(), -1);
        Check.due("steps off the floor", kept.advance(3), 0);
        Check.due("turns off the floor", kept.turnCount(), 0);
        kept.setCurtain(3, false);
        kept.setCurtain(0, false);
        Check.due("not before the end of the minute", kept.walkerTile(), -1);
        kept.advance(1);
        Check.due("nearest to the remembered column", kept.walkerTile(), 3);
        Check.due("the direction stays", kept.facesRight(), false);
        // the column of the new tile is remembered from then on
        Check.due("from the new column", Check.floor("floor 2 5;light 1;walker 2 right;curtain 0 1 2 4;open 0 1 2;"
                + "advance 1").walkerTile(), 8);
        MoonlitFloor resting = Check.floor("floor 2 3;light 1;stamina 1;advance 1");
        Check.due("a resting walker is relocated", resting.walkerTile(), 4);
        Check.due("and goes on resting", resting.restRemaining(), 1);
        MoonlitFloor dark = Check.floor("floor 2 3;light 1;cloud 1 1;advance 1");
        Check.due("not while the moon does not shine", dark.walkerTile(), 1);
        MoonlitFloor shut = Check.floor("floor 2 3;light 9;walker 1 right;close 1 2");
        shut.advance(1);
        Check.due("from under a closed curtain", shut.walkerTile(), 0);
        MoonlitFloor wet = Check.floor("floor 2 3;light 9;walker 1 right;close 0 2;spill 1 50;advance 1");
        Check.due("a lit tile with a spill is kept", wet.walkerTile(), 1);
        MoonlitFloor drowned = Check.floor("floor 2 3;light 1;spill 3 90;spill 4 90;spill 5 90;advance 1");
        Check.due("no lit tile without a spill", drowned.walkerTile(), -1);
        drowned.advance(1);
        Check.due("back on the first row", drowned.walkerTile(), 1);
        MoonlitFloor stirred = Check.floor("floor 2 3;light 9;draught 1 2;advance 2");
        Check.due("after the draught", stirred.walkerTile(), 2);
        MoonlitFloor blown = Check.floor("floor 2 3;light 9;draught 2 2;advance 2");
        Check.due("a draught takes the light", blown.walkerTile(), 1);
        MoonlitFloor dried = Check.floor("floor 2 2;light 9;walker 0 right;curtain 1;close 0;spill 0 2;open 1;spill 1 2;"
                + "advance 1");
        Check.due("not on a spill", dried.walkerTile(), -1);
        dried.advance(1);
        Check.due("on a tile that has just dried", dried.walkerTile(), 1);
    }

    private static void relocationIsNoStep() {
        MoonlitFloor floor = Check.floor("floor 2 3;light 1;walker 1 right;close 0 2;advance 1");
        Check.due("walkerTile", floor.walkerTile(), 4);
        Check.due("totalSteps", floor.totalSteps(), 0);
        Check.due("wear", floor.wear(4), 0);
        Check.due("wear of the first tile", floor.wear(1), 0);
        Check.due("stepsSincePause", floor.stepsSincePause(), 0);
    }

    /** Promise 30. */
    private static void blockReason() {
        String[] setups = {"floor 2 3", "floor 2 2;night 0", "floor 2 2;curtain 0 1", "floor 2 3;cloud 1 1;advance 1",
            "floor 2 3;stamina 1;cloud 1 1;advance 1", "floor 2 3;stamina 1;advance 1", "floor 2 2;stamina 1;advance 1",
            "floor 2 2;walker 1 right", "floor 2 2;walker 0 left", "floor 2 3;curtain 1", "floor 2 3;spill 1 5;close 1",
            "floor 2 3;spill 1 1", "floor 2 3;walker 2 left;spill 1 5", "floor 2 3;walker 2 left;curtain 1",
            "floor 2 3;walker 2 left", "floor 2 3;spill 4 5", "floor 2 3;rug 1;cat 1;bowl 1",
            "floor 2 3;walker 2 right;spill 3 5", "floor 2 3;light 1;spill 4 9;turn;advance 1"};
        int[] due = {0, 1, 1, 2, 2, 3, 3, 4, 4, 5, 5, 6, 6, 5, 0, 0, 0, 4, 6};
        for (int i = 0; i < setups.length; i++) {
            Check.due("blockReason of " + setups[i], Check.floor(setups[i]).blockReason(), due[i]);
        }
    }

    /** Promise 31. */
    private static void wear() {
        MoonlitFloor floor = Check.floor("floor 2 4;light 8;advance 8");
        int[] due = {1, 2, 2, 1, 0, 0, 0, 0};
        for (int tile = 0; tile < 8; tile++) {
            Check.due("wear " + tile, floor.wear(tile), due[tile]);
        }
        floor.advance(8);
        int[] later = {1, 2, 2, 1, 1, 2, 2, 1};
        for (int tile = 0; tile < 8; tile++) {
            Check.due("wear later " + tile, floor.wear(tile), later[tile]);
        }
        MoonlitFloor last = Check.floor("floor 8 10;light 1;pace 2;walker 9 left;close 0 1 2 3 4 5 6 7;advance 8");
        Check.due("wear of the last tile", last.wear(79), 1);
        for (int tile : new int[] {-1, 8, 80, Integer.MIN_VALUE, Integer.MAX_VALUE}) {
            Check.noIndex("wear " + tile, () -> floor.wear(tile));
        }
    }
}
