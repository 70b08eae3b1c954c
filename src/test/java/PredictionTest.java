/** Promises 45 to 52: the predictions. */
final class PredictionTest {
    private static final int[] WRONG_MINUTES = {-1, 301, Integer.MIN_VALUE, Integer.MAX_VALUE};
    private static final int[] WRONG_TILES = {-1, 20, 80, Integer.MIN_VALUE, Integer.MAX_VALUE};
    private static final String BUSY = "floor 4 5;light 3;pace 2;rug 7;cat 3 down left up right stay left;noise 3;"
            + "stamina 7;rest 2;draught 2 5;drying 30;bowl 2 8 row 3;advance 7";

    private PredictionTest() {
    }

    public static void main(String[] args) {
        withoutSetup();
        simple();
        asItComes();
        nothingChanges();
        minutesUntilStep();
        minutesUntilFall();
        stepsAtPace();
        bestPace();
        bestCurtain();
        wrongArguments();
        Check.end();
    }

    private static void withoutSetup() {
        MoonlitFloor floor = new MoonlitFloor();
        Check.noSetup("stepsAfter", () -> floor.stepsAfter(-1));
        Check.noSetup("walkerTileAfter", () -> floor.walkerTileAfter(-1));
        Check.noSetup("spillTimeAfter", () -> floor.spillTimeAfter(-1, -1));
        Check.noSetup("minutesUntilStep", () -> floor.minutesUntilStep(-1));
        Check.noSetup("minutesUntilFall", floor::minutesUntilFall);
        Check.noSetup("stepsAtPace", () -> floor.stepsAtPace(0, -1));
        Check.noSetup("bestPace", () -> floor.bestPace(-1));
        Check.noSetup("bestCurtain", () -> floor.bestCurtain(-1));
    }

    /** Promises 45, 46 and 47. */
    private static void simple() {
        MoonlitFloor floor = Check.floor("floor 2 4;light 3;walker 1 right;spill 7 8");
        // a turn in minute 3; then the nearest tile of row 1 without a spill
        int[] steps = {0, 1, 2, 2, 3, 4, 4};
        int[] tiles = {1, 2, 3, 6, 5, 4, 0};
        for (int minutes = 0; minutes <= 6; minutes++) {
            Check.due("stepsAfter " + minutes, floor.stepsAfter(minutes), steps[minutes]);
            Check.due("walkerTileAfter " + minutes, floor.walkerTileAfter(minutes), tiles[minutes]);
        }
        for (int minutes = 0; minutes <= 10; minutes++) {
            Check.due("spillTimeAfter 7 " + minutes, floor.spillTimeAfter(7, minutes), Math.max(0, 8 - minutes));
            Check.due("spillTimeAfter 6 " + minutes, floor.spillTimeAfter(6, minutes), 0);
        }
        Check.due("walkerTileAfter off the floor", Check.floor("floor 2 2;night 0").walkerTileAfter(5), -1);
        Check.due("stepsAfter counts from the setup", Check.floor("floor 2 9;light 9;advance 2").stepsAfter(3), 5);
    }

    private static void asItComes() {
        for (int minutes : new int[] {1, 2, 3, 5, 8, 13, 21, 34, 55, 89, 144, 233, 300}) {
            MoonlitFloor floor = Check.floor(BUSY);
            int steps = floor.stepsAfter(minutes);
            int tile = floor.walkerTileAfter(minutes);
            int spill = floor.spillTimeAfter(16, minutes);
            floor.advance(minutes);
            Check.due("totalSteps after " + minutes, floor.totalSteps(), steps);
            Check.due("walkerTile after " + minutes, floor.walkerTile(), tile);
            Check.due("spillTime after " + minutes, floor.spillTime(16), spill);
        }
    }

    private static void nothingChanges() {
        MoonlitFloor floor = Check.floor(BUSY);
        floor.setCurtain(4, true);
        String[] before = States.of(floor);
        floor.stepsAfter(300);
        floor.walkerTileAfter(299);
        floor.spillTimeAfter(3, 298);
        floor.minutesUntilStep(16);
        floor.minutesUntilFall();
        floor.stepsAtPace(5, 300);
        floor.bestPace(200);
        floor.bestCurtain(100);
        floor.minutesUntilLit(19);
        States.same("after predictions", States.of(floor), before);
        Check.due("undoCount after predictions", floor.undoCount(), 1);
        floor.advance(10);
        MoonlitFloor other = Check.floor(BUSY);
        other.setCurtain(4, true);
        other.advance(10);
        States.same("after 10 minutes more", States.of(floor), States.of(other));
    }

    /** Promise 48. */
    private static void minutesUntilStep() {
        MoonlitFloor floor = Check.floor("floor 2 4;light 20");
        int[] due = {7, 1, 2, 3, 23, 22, 21, 27};
        for (int tile = 0; tile < 8; tile++) {
            Check.due("minutesUntilStep " + tile, floor.minutesUntilStep(tile), due[tile]);
        }
        floor.advance(1);
        Check.due("the next step on the same tile", floor.minutesUntilStep(1), 5);
        Check.due("minutesUntilStep 2", floor.minutesUntilStep(2), 1);
        Check.due("minutesUntilStep at a greater pace", Check.floor("floor 2 4;pace 3").minutesUntilStep(3), 1);
        Check.due("minutesUntilStep behind a curtain", Check.floor("floor 2 4;curtain 2").minutesUntilStep(3), -1);
        // open in minutes 20 to 39 of every other night, and dark in night 30
        MoonlitFloor far = Check.floor("floor 8 2;light 20;night 28;draught 0 60;advance 40");
        Check.due("minutesUntilStep, beyond the bound", far.minutesUntilStep(2), -1);
        int waited = 0;
        while (far.minutesUntilStep(2) < 0 && waited < 300) {
            far.advance(1);
            waited++;
        }
        Check.due("a wait is seen", waited > 0 && waited < 300, true);
        Check.due("minutesUntilStep, at the bound", far.minutesUntilStep(2), 500);
    }

    /** Promise 49. */
    private static void minutesUntilFall() {
        MoonlitFloor floor = Check.floor("floor 2 2;light 20;curtain 1;cat 2 stay up;bowl 0");
        Check.due("minutesUntilFall", floor.minutesUntilFall(), 2);
        floor.advance(1);
        Check.due("minutesUntilFall", floor.minutesUntilFall(), 1);
        floor.advance(1);
        Check.due("minutesUntilFall after the fall", floor.minutesUntilFall(), -1);
        Check.due("minutesUntilFall without a cat", Check.floor("floor 2 2;bowl 0").minutesUntilFall(), -1);
        MoonlitFloor far = Check.floor("floor 8 5;drying 99;light 12;walker 0 left;cat 32" + " stay".repeat(10)
                + " right" + " stay".repeat(9) + " down up" + " stay".repeat(4) + " up" + " stay".repeat(3)
                + ";bowl row 0 row 5 column 4");
        for (int waited = 0; waited < 7; waited++) {
            Check.due("minutesUntilFall, beyond the bound", far.minutesUntilFall(), -1);
            far.advance(1);
        }
        Check.due("minutesUntilFall, at the bound", far.minutesUntilFall(), 500);
        far.advance(1);
        Check.due("minutesUntilFall, a minute later", far.minutesUntilFall(), 499);
    }

    /** Promise 50. */
    private static void stepsAtPace() {
        MoonlitFloor floor = Check.floor("floor 2 10;light 20;pace 2");
        int[] due = {2, 4, 6, 8, 8};
        for (int pace = 1; pace <= 5; pace++) {
            Check.due("stepsAtPace " + pace, floor.stepsAtPace(pace, 2), due[pace - 1]);
            Check.due("stepsAtPace " + pace + " for no time", floor.stepsAtPace(pace, 0), 0);
        }
        Check.due("pace", floor.pace(), 2);
        floor.advance(1);
        Check.due("stepsAtPace counts from the setup", floor.stepsAtPace(3, 1), 5);
        MoonlitFloor busy = Check.floor(BUSY);
        int steps = busy.stepsAtPace(4, 250);
        busy.setPace(4);
        busy.advance(250);
        Check.due("stepsAtPace as it comes", busy.totalSteps(), steps);
    }

    /** Promise 51. */
    private static void bestPace() {
        // a step and a turn by turns: 1, 1, 2, 2, 2 steps in a minute
        MoonlitFloor floor = Check.floor("floor 2 2;light 20;pace 2");
        Check.due("bestPace 1", floor.bestPace(1), 3);
        Check.due("bestPace 0", floor.bestPace(0), 1);
        Check.due("bestPace in a long row", Check.floor("floor 2 10;light 20").bestPace(2), 4);
        Check.due("bestPace of a weak moon", Check.floor("floor 2 10;light 20;night 5").bestPace(2), 2);
        Check.due("bestPace of nights that grow", Check.floor("floor 2 10;light 1;night 1").bestPace(300), 4);
        Check.due("bestPace in a dark night", Check.floor("floor 2 10;night 0").bestPace(5), 1);
        // with a stamina of 2 and pauses a greater pace than 2 adds nothing
        Check.due("bestPace with pauses", Check.floor("floor 2 10;light 20;stamina 2").bestPace(1), 2);
        MoonlitFloor slow = Check.floor("floor 2 10;light 20;pace 5;cat 1 stay stay;curtain 5;bowl 4");
        Check.due("bestPace leaves the pace", slow.bestPace(3) > 0 ? slow.pace() : 0, 5);
        MoonlitFloor busy = Check.floor(BUSY);
        int best = busy.bestPace(100);
        for (int pace = 1; pace <= 5; pace++) {
            int less = busy.stepsAtPace(pace, 100);
            int most = busy.stepsAtPace(best, 100);
            Check.due("bestPace against " + pace, pace < best ? less < most : less <= most, true);
        }
    }

    /** Promise 52. */
    private static void bestCurtain() {
        Check.due("bestCurtain of the nearer part",
                Check.floor("floor 2 5;light 20;curtain 1 3").bestCurtain(10), 1);
        MoonlitFloor floor = Check.floor("floor 2 6;light 20;walker 2 right;curtain 1 3");
        Check.due("bestCurtain of the greater part", floor.bestCurtain(10), 3);
        Check.due("bestCurtain for no time", floor.bestCurtain(0), 1);
        Check.due("isCurtainClosed 1", floor.isCurtainClosed(1), true);
        Check.due("isCurtainClosed 3", floor.isCurtainClosed(3), true);
        Check.due("bestCurtain of none", Check.floor("floor 2 5").bestCurtain(10), -1);
        Check.due("bestCurtain of the last column", Check.floor("floor 2 2;curtain 1").bestCurtain(10), 1);
        Check.due("bestCurtain of the first column", Check.floor("floor 2 2;curtain 0").bestCurtain(10), 0);
        Check.due("bestCurtain in a dark night", Check.floor("floor 2 4;night 0;curtain 3 2").bestCurtain(3), 2);
        Check.due("bestCurtain counts from now",
                Check.floor("floor 2 5;light 20;walker 2 right;advance 2;close 1 3").bestCurtain(5), 3);
    }

    private static void wrongArguments() {
        MoonlitFloor floor = Check.floor(BUSY);
        for (int minutes : WRONG_MINUTES) {
            Check.noArgument("stepsAfter " + minutes, () -> floor.stepsAfter(minutes));
            Check.noArgument("walkerTileAfter " + minutes, () -> floor.walkerTileAfter(minutes));
            Check.noArgument("spillTimeAfter " + minutes, () -> floor.spillTimeAfter(19, minutes));
            Check.noIndex("spillTimeAfter of no tile", () -> floor.spillTimeAfter(20, minutes));
            Check.noArgument("stepsAtPace " + minutes, () -> floor.stepsAtPace(1, minutes));
            Check.noArgument("bestPace " + minutes, () -> floor.bestPace(minutes));
            Check.noArgument("bestCurtain " + minutes, () -> floor.bestCurtain(minutes));
        }
        for (int tile : WRONG_TILES) {
            Check.noIndex("spillTimeAfter " + tile, () -> floor.spillTimeAfter(tile, 0));
            Check.noIndex("minutesUntilStep " + tile, () -> floor.minutesUntilStep(tile));
        }
        for (int pace : new int[] {0, -1, 6, Integer.MIN_VALUE, Integer.MAX_VALUE}) {
            Check.noArgument("stepsAtPace " + pace, () -> floor.stepsAtPace(pace, 3));
        }
        Check.due("stepsAtPace at the bounds", floor.stepsAtPace(5, 300) >= floor.totalSteps(), true);
        Check.due("stepsAfter at the bounds", floor.stepsAfter(0), floor.totalSteps());
    }
}
