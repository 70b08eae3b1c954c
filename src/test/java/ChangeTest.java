/** Promises 56 to 65, and section 7: changes, undoing and saved states. */
final class ChangeTest {
    private ChangeTest() {
    }

    public static void main(String[] args) {
        withoutSetup();
        advance();
        setPace();
        setCurtain();
        placeBowl();
        mop();
        turnWalker();
        undoEach();
        undoAdvance();
        undoLimit();
        failedChanges();
        saveAndRestore();
        wrongSlots();
        Check.end();
    }

    private static void withoutSetup() {
        MoonlitFloor floor = new MoonlitFloor();
        Check.noSetup("advance", () -> floor.advance(0));
        Check.noSetup("setPace", () -> floor.setPace(0));
        Check.noSetup("setCurtain", () -> floor.setCurtain(-1, true));
        Check.noSetup("placeBowl", () -> floor.placeBowl(-1));
        Check.noSetup("mop", () -> floor.mop(-1));
        Check.noSetup("turnWalker", floor::turnWalker);
        Check.noSetup("undo", floor::undo);
        Check.due("undoCount", floor.undoCount(), 0);
        Check.noSetup("saveState", () -> floor.saveState(-1));
        Check.noIndex("restoreState -1", () -> floor.restoreState(-1));
        Check.noIndex("restoreState 2", () -> floor.restoreState(2));
        Check.noSetup("restoreState 0", () -> floor.restoreState(0));
        Check.noSetup("restoreState 1", () -> floor.restoreState(1));
    }

    /** Promise 56. */
    private static void advance() {
        MoonlitFloor floor = Check.floor("floor 2 4;light 3;pace 2;walker 1 right");
        Check.due("advance 1", floor.advance(1), 2);
        Check.due("advance 2", floor.advance(2), 3);
        Check.due("advance 3, into the next night", floor.advance(3), 4);
        Check.due("totalSteps", floor.totalSteps(), 9);
        Check.due("night", floor.night(), 16);
        Check.due("advance by cloud", Check.floor("floor 2 2;cloud 0 9").advance(9), 0);
        MoonlitFloor most = Check.floor("floor 2 10;light 20");
        Check.due("advance 300", most.advance(300), most.totalSteps());
        Check.due("night", most.night(), 22);
        Check.due("minute", most.minute(), 20);
        for (int minutes : new int[] {0, -1, 301, Integer.MIN_VALUE, Integer.MAX_VALUE}) {
            Check.noArgument("advance " + minutes, () -> most.advance(minutes));
        }
        Check.due("minute after exceptions", most.minute(), 20);
        // the bound of 2000 minutes is one of setups only
        for (int i = 0; i < 10; i++) {
            most.advance(300);
        }
        Check.due("night after 3300 minutes", most.night(), 15 + 3300 / 40);
    }

    /** Promise 57. */
    private static void setPace() {
        MoonlitFloor floor = Check.floor("floor 2 4;pace 3");
        Check.due("setPace 5", floor.setPace(5), 3);
        Check.due("setPace 1", floor.setPace(1), 5);
        Check.due("setPace 1 again", floor.setPace(1), 1);
        Check.due("pace", floor.pace(), 1);
        for (int pace : new int[] {0, -1, 6, Integer.MIN_VALUE, Integer.MAX_VALUE}) {
            Check.noArgument("setPace " + pace, () -> floor.setPace(pace));
        }
        Check.due("pace", floor.pace(), 1);
        Check.due("undoCount", floor.undoCount(), 3);
    }

    /** Promise 58. */
    private static void setCurtain() {
        MoonlitFloor floor = Check.floor("floor 2 4;light 9;curtain 3");
        Check.due("close 1", floor.setCurtain(1, true), false);
        Check.due("close 1 again", floor.setCurtain(1, true), true);
        Check.due("open 3", floor.setCurtain(3, false), true);
        Check.due("open 3 again", floor.setCurtain(3, false), false);
        Check.due("isCurtainClosed 1", floor.isCurtainClosed(1), true);
        Check.due("isCurtainClosed 3", floor.isCurtainClosed(3), false);
        Check.due("undoCount", floor.undoCount(), 4);
        floor.setCurtain(0, true);
        Check.due("the walker is not moved", floor.walkerTile(), 0);
        floor.advance(1);
        Check.due("before the end of the next minute", floor.walkerTile(), 2);
        for (int column : new int[] {-1, 4, 10, Integer.MIN_VALUE, Integer.MAX_VALUE}) {
            Check.noIndex("setCurtain " + column, () -> floor.setCurtain(column, true));
            Check.noIndex("setCurtain " + column, () -> floor.setCurtain(column, false));
        }
        // the walker may step away from under it
        MoonlitFloor away = Check.floor("floor 2 4;light 9");
        away.setCurtain(0, true);
        away.advance(1);
        Check.due("a step from under the curtain", away.totalSteps(), 1);
    }

    /** Promise 59. */
    private static void placeBowl() {
        MoonlitFloor floor = Check.floor("floor 2 4;light 9;cat 4 right stay;bowl 7;spill 3 5");
        Check.due("placeBowl 6", floor.placeBowl(6), 2);
        Check.due("placeBowl where the cat is", floor.placeBowl(4), 3);
        Check.due("placeBowl where the walker is", floor.placeBowl(0), 4);
        Check.due("hasBowl 4", floor.hasBowl(4), true);
        Check.noArgument("placeBowl on a bowl", () -> floor.placeBowl(7));
        Check.noArgument("placeBowl on a bowl", () -> floor.placeBowl(4));
        Check.noArgument("placeBowl on a spill", () -> floor.placeBowl(3));
        for (int tile : new int[] {-1, 8, 80, Integer.MIN_VALUE, Integer.MAX_VALUE}) {
            Check.noIndex("placeBowl " + tile, () -> floor.placeBowl(tile));
        }
        floor.advance(1);
        Check.due("the cat left it", floor.hasBowl(4), true);
        floor.placeBowl(5);
        floor.advance(1);
        Check.due("a move that leaves the cat there spills it", floor.hasBowl(5), false);
        Check.due("placeBowl after a spilled one", floor.placeBowl(1), 5);
        MoonlitFloor rug = Check.floor("floor 2 4;rug 2");
        Check.due("placeBowl on a rug", rug.placeBowl(2), 1);
    }

    /** Promise 60. */
    private static void mop() {
        MoonlitFloor floor = Check.floor("floor 2 4;light 9;spill 1 9;spill 7 99;bowl 2");
        Check.due("mop 7", floor.mop(7), 99);
        Check.due("spillTime 7", floor.spillTime(7), 0);
        floor.advance(2);
        Check.due("mop 1", floor.mop(1), 7);
        Check.due("spillCount", floor.spillCount(), 0);
        Check.noArgument("mop 1 again", () -> floor.mop(1));
        Check.noArgument("mop a bowl", () -> floor.mop(2));
        Check.noArgument("mop a dry tile", () -> floor.mop(0));
        for (int tile : new int[] {-1, 8, 80, Integer.MIN_VALUE, Integer.MAX_VALUE}) {
            Check.noIndex("mop " + tile, () -> floor.mop(tile));
        }
        Check.due("undoCount", floor.undoCount(), 3);
    }

    /** Promise 61. */
    private static void turnWalker() {
        MoonlitFloor floor = Check.floor("floor 2 4;walker 2 right");
        Check.due("turnWalker", floor.turnWalker(), false);
        Check.due("facesRight", floor.facesRight(), false);
        floor.advance(1);
        Check.due("walkerTile", floor.walkerTile(), 1);
        Check.due("turnWalker", floor.turnWalker(), true);
        Check.due("turnCount", floor.turnCount(), 0);
        MoonlitFloor off = Check.floor("floor 2 4;night 0;walker 2 left");
        Check.due("turnWalker off the floor", off.turnWalker(), true);
    }

    /** Promises 62 and 63. */
    private static void undoEach() {
        MoonlitFloor floor = Check.floor("floor 2 4;light 9;pace 2;curtain 3;spill 7 9");
        floor.setPace(4);
        floor.setCurtain(3, false);
        floor.setCurtain(3, false);
        floor.placeBowl(6);
        floor.mop(7);
        floor.turnWalker();
        Check.due("undoCount", floor.undoCount(), 6);
        Check.due("undo turnWalker", floor.undo(), 5);
        Check.due("facesRight", floor.facesRight(), true);
        Check.due("spillTime 7", floor.spillTime(7), 0);
        Check.due("undo mop", floor.undo(), 4);
        Check.due("spillTime 7", floor.spillTime(7), 9);
        Check.due("hasBowl 6", floor.hasBowl(6), true);
        Check.due("undo placeBowl", floor.undo(), 3);
        Check.due("hasBowl 6", floor.hasBowl(6), false);
        Check.due("undo a change that changed nothing", floor.undo(), 2);
        Check.due("isCurtainClosed 3", floor.isCurtainClosed(3), false);
        Check.due("undo setCurtain", floor.undo(), 1);
        Check.due("isCurtainClosed 3", floor.isCurtainClosed(3), true);
        Check.due("pace", floor.pace(), 4);
        Check.due("undo setPace", floor.undo(), 0);
        Check.due("pace", floor.pace(), 2);
        Check.noSetup("nothing to undo", floor::undo);
        Check.due("pace", floor.pace(), 2);
    }

    private static void undoAdvance() {
        MoonlitFloor floor = Check.floor("floor 2 5;light 3;rest 2;noise 9;stamina 3;rug 1 6;cat 4 left left down;"
                + "draught 2 4;drying 20;bowl 2 8;spill 9 9;advance 1");
        String[] before = States.of(floor);
        floor.advance(300);
        floor.undo();
        States.same("after undo", States.of(floor), before);
        floor.advance(300);
        String[] later = States.of(floor);
        floor.undo();
        floor.advance(300);
        States.same("the same once more", States.of(floor), later);
    }

    private static void undoLimit() {
        MoonlitFloor floor = Check.floor("floor 2 10;light 20");
        for (int i = 1; i <= 12; i++) {
            floor.advance(1);
            Check.due("undoCount", floor.undoCount(), Math.min(8, i));
        }
        for (int i = 7; i >= 0; i--) {
            Check.due("undo", floor.undo(), i);
            Check.due("minute", floor.minute(), 4 + i);
        }
        Check.noSetup("a ninth undo", floor::undo);
        Check.due("minute", floor.minute(), 4);
        floor.setPace(3);
        floor.undo();
        floor.setPace(4);
        floor.setPace(5);
        Check.due("undo", floor.undo(), 1);
        Check.due("pace", floor.pace(), 4);
        Check.due("undo", floor.undo(), 0);
        Check.due("pace", floor.pace(), 1);
        // undoing does not touch the input buffer
        floor.append(0, 0, 0, 0, 0);
        floor.setPace(2);
        floor.append(0, 0, 0, 0, 0);
        floor.undo();
        Check.due("bufferLength", floor.bufferLength(), 40);
    }

    private static void failedChanges() {
        MoonlitFloor floor = Check.floor("floor 2 2;bowl 3");
        floor.setPace(2);
        Check.noArgument("advance 0", () -> floor.advance(0));
        Check.noArgument("setPace 6", () -> floor.setPace(6));
        Check.noIndex("setCurtain 2", () -> floor.setCurtain(2, true));
        Check.noArgument("placeBowl 3", () -> floor.placeBowl(3));
        Check.noArgument("mop 3", () -> floor.mop(3));
        Check.noIndex("saveState 2", () -> floor.saveState(2));
        Check.noSetup("restoreState 0", () -> floor.restoreState(0));
        Check.due("undoCount", floor.undoCount(), 1);
        floor.saveState(0);
        floor.writeRow(0);
        floor.stepsAfter(3);
        Check.due("undoCount after calls that are no changes", floor.undoCount(), 1);
        Check.due("undo", floor.undo(), 0);
        Check.due("pace", floor.pace(), 1);
    }

    /** Promises 64 and 65. */
    private static void saveAndRestore() {
        MoonlitFloor floor = Check.floor("floor 2 4;light 2;night 3");
        Check.due("saveState 0", floor.saveState(0), 3);
        Check.noSetup("the other slot", () -> floor.restoreState(1));
        floor.advance(9);
        Check.due("saveState 1", floor.saveState(1), 5);
        int steps = floor.totalSteps();
        floor.advance(3);
        Check.due("restoreState 0", floor.restoreState(0), 3);
        Check.due("minute", floor.minute(), 0);
        Check.due("totalSteps", floor.totalSteps(), 0);
        Check.due("undoCount", floor.undoCount(), 0);
        Check.noSetup("nothing to undo", floor::undo);
        Check.due("restoreState 1", floor.restoreState(1), 5);
        Check.due("minute", floor.minute(), 1);
        Check.due("totalSteps", floor.totalSteps(), steps);
        floor.setPace(4);
        floor.advance(1);
        Check.due("restoreState 1 again", floor.restoreState(1), 5);
        Check.due("pace", floor.pace(), 1);
        Check.due("minute", floor.minute(), 1);
        // a state that is saved later replaces the one before
        floor.setPace(3);
        floor.saveState(0);
        floor.undo();
        Check.due("pace", floor.pace(), 1);
        Check.due("restoreState 0", floor.restoreState(0), 5);
        Check.due("pace", floor.pace(), 3);
        floor.append(0, 0, 0, 0, 0);
        floor.restoreState(1);
        Check.due("bufferLength", floor.bufferLength(), 20);
    }

    private static void wrongSlots() {
        MoonlitFloor floor = Check.floor("floor 2 4");
        floor.setPace(2);
        for (int slot : new int[] {-1, 2, 3, Integer.MIN_VALUE, Integer.MAX_VALUE}) {
            Check.noIndex("saveState " + slot, () -> floor.saveState(slot));
            Check.noIndex("restoreState " + slot, () -> floor.restoreState(slot));
        }
        Check.due("undoCount", floor.undoCount(), 1);
    }
}
