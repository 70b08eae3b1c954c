/** The bounds that promises 56 to 65, section 7 and the head of the document name. */
final class ChangeBoundsTest {
    private static final String SHUTTLE = "floor 2 2;light 20";

    private ChangeBoundsTest() {
    }

    public static void main(String[] args) {
        advance();
        stepsOfAdvance();
        setPace();
        setCurtain();
        curtainBeforeADraught();
        curtainOverTheWalker();
        placeBowl();
        bowlUnderTheCat();
        bowlOnSomething();
        mop();
        mopWithoutASpill();
        turnWalker();
        undoOfNothing();
        undoToTheLast();
        undoCount();
        eightChanges();
        changesAfterUndo();
        changesAfterParseAndRestore();
        changesThatChangeNothing();
        noChangesBelowUndo();
        whatUndoLeaves();
        saveState();
        saveOverAState();
        restoreState();
        restoreOfNothing();
        restoredStateStays();
        restoreClears();
        undoLeavesSavedStates();
        fiveHundredAndTwelveCalls();
        Check.end();
    }

    // ---- promises 56 to 61

    private static void advance() {
        Sentence.promise(56, "Throws IllegalArgumentException if minutes is out of range");
        Check.numbers("advance", 1, 300, minutes -> Check.floor(SHUTTLE).advance(minutes));
        Sentence.promise(56, "minutes: number of minutes, 1 to 300");
        MoonlitFloor floor = Check.floor(SHUTTLE);
        Check.due("advance 1", floor.advance(1), 1);
        Check.due("minute", floor.minute(), 1);
        Check.due("advance 300", floor.advance(300), 150);
        Check.due("minute of 301", floor.minute(), 21);
        Check.due("night of 301", floor.night(), 22);
    }

    private static void stepsOfAdvance() {
        Sentence.promise(56, "Returns the number of steps that the walker made in them.");
        MoonlitFloor floor = Check.floor(SHUTTLE);
        Check.due("a step", floor.advance(1), 1);
        Check.due("a turn", floor.advance(1), 0);
        Check.due("a step and a turn", floor.advance(2), 1);
        Check.due("over the end of the night", floor.advance(38), 19);
        Check.due("off the floor", Check.floor("floor 2 2;curtain 0 1").advance(300), 0);
    }

    private static void setPace() {
        Sentence.promise(57, "Throws IllegalArgumentException if pace is out of range");
        Check.numbers("setPace", 1, 5, pace -> Check.floor(SHUTTLE).setPace(pace));
        Sentence.promise(57, "Returns the previous pace.");
        MoonlitFloor floor = Check.floor(SHUTTLE + ";pace 2");
        Check.due("setPace 5", floor.setPace(5), 2);
        Check.due("setPace 1", floor.setPace(1), 5);
        Check.due("setPace 4", floor.setPace(4), 1);
        Check.due("pace", floor.pace(), 4);
        Check.due("steps at pace 4", floor.advance(1), 2);
    }

    private static void setCurtain() {
        Sentence.promise(58, "Throws IndexOutOfBoundsException if there is no such column");
        Check.indexes("close of 2", 2, column -> Check.floor("floor 8 2").setCurtain(column, true));
        Check.indexes("open of 4", 4, column -> Check.floor("floor 3 4").setCurtain(column, false));
        Check.indexes("close of 10", 10, column -> Check.floor("floor 2 10").setCurtain(column, true));
        Sentence.promise(58, "Returns true if the curtain was closed before.");
        MoonlitFloor floor = Check.floor("floor 2 10");
        Check.due("close 9", floor.setCurtain(9, true), false);
        Check.due("close 9 again", floor.setCurtain(9, true), true);
        Check.due("open 9", floor.setCurtain(9, false), true);
        Check.due("open 9 again", floor.setCurtain(9, false), false);
        Check.due("isCurtainClosed 9", floor.isCurtainClosed(9), false);
        Check.due("isCurtainClosed 0", floor.isCurtainClosed(0), false);
    }

    private static void curtainBeforeADraught() {
        Sentence.promise(58, "Opens or closes the curtain of a column.");
        // the draught stirs the curtain in minutes 2, 4 and so on
        MoonlitFloor floor = Check.floor("floor 2 3;light 20;draught 2 2");
        floor.setCurtain(2, true);
        floor.advance(2);
        Check.due("a closed curtain after the draught", floor.isCurtainClosed(2), false);
        Check.due("the tile behind it", floor.isLit(2), true);
        floor.advance(2);
        Check.due("and after the next draught", floor.isCurtainClosed(2), true);
        floor.setCurtain(2, false);
        floor.advance(2);
        Check.due("an opened curtain after the draught", floor.isCurtainClosed(2), true);
        Check.due("the tile behind it", floor.isLit(2), false);
    }

    private static void curtainOverTheWalker() {
        Sentence.promise(58, "The walker is not moved by this before the end of the next minute.");
        MoonlitFloor closed = Check.floor("floor 2 3;light 20;walker 1 right");
        closed.setCurtain(1, true);
        closed.setCurtain(2, true);
        Check.due("walkerTile at once", closed.walkerTile(), 1);
        closed.advance(1);
        Check.due("walkerTile a minute later", closed.walkerTile(), 0);
        Check.due("totalSteps", closed.totalSteps(), 0);
        Check.due("turnCount", closed.turnCount(), 1);
        MoonlitFloor opened = Check.floor("floor 2 3;light 20;curtain 0 1 2");
        opened.setCurtain(2, false);
        Check.due("off the floor at once", opened.walkerTile(), -1);
        opened.advance(1);
        Check.due("on the floor a minute later", opened.walkerTile(), 2);
        Check.due("turnCount of that minute", opened.turnCount(), 0);
    }

    private static void placeBowl() {
        Sentence.promise(59, "Throws IndexOutOfBoundsException if there is no such tile");
        Check.indexes("placeBowl of 4", 4, tile -> Check.floor("floor 2 2").placeBowl(tile));
        Check.indexes("placeBowl of 80", 80, tile -> Check.floor("floor 8 10").placeBowl(tile));
        Sentence.promise(59, "Returns the number of bowls afterwards.");
        MoonlitFloor floor = Check.floor("floor 2 2");
        int[] due = {1, 2, 3, 4};
        for (int tile = 0; tile < 4; tile++) {
            Check.due("placeBowl " + tile, floor.placeBowl(tile), due[tile]);
        }
        for (int tile = 0; tile < 4; tile++) {
            int full = tile;
            Check.noArgument("placeBowl on a full floor", () -> floor.placeBowl(full));
        }
    }

    private static void bowlUnderTheCat() {
        Sentence.promise(59, "If the cat is there, it spills the bowl only when a move of its route leads to this tile, or leaves it"
                + " there.");
        MoonlitFloor leaves = Check.floor("floor 2 3;night 0;cat 0 right left");
        leaves.placeBowl(0);
        Check.due("at once", leaves.hasBowl(0), true);
        leaves.advance(1);
        Check.due("after a move that leads away", leaves.hasBowl(0), true);
        leaves.advance(1);
        Check.due("after a move that leads there", leaves.hasBowl(0), false);
        MoonlitFloor stays = Check.floor("floor 2 3;night 0;cat 0 stay");
        stays.placeBowl(0);
        Check.due("at once", stays.hasBowl(0), true);
        stays.advance(1);
        Check.due("after a move that leaves it there", stays.hasBowl(0), false);
        MoonlitFloor edge = Check.floor("floor 2 3;night 0;cat 0 up");
        edge.placeBowl(0);
        edge.advance(1);
        Check.due("after a move that the edge stops", edge.hasBowl(0), false);
        MoonlitFloor still = Check.floor("floor 2 3;night 0;cat 0");
        still.placeBowl(0);
        still.advance(300);
        Check.due("without a move", still.hasBowl(0), true);
    }

    private static void bowlOnSomething() {
        Sentence.promise(59, "Throws IllegalArgumentException if there is a bowl or a spill on the tile");
        MoonlitFloor floor = Check.floor("floor 2 4;night 0;rug 0;cat 1;bowl 2;spill 3 1;spill 7 2");
        Check.noArgument("on a bowl", () -> floor.placeBowl(2));
        Check.noArgument("on a spill of 1", () -> floor.placeBowl(3));
        Check.noArgument("on a spill of 2", () -> floor.placeBowl(7));
        Check.due("on a rug", floor.placeBowl(0), 2);
        Check.due("where the cat is", floor.placeBowl(1), 3);
        floor.advance(1);
        Check.due("on a spill that has dried", floor.placeBowl(3), 4);
        Check.noArgument("on a spill of 1", () -> floor.placeBowl(7));
        floor.mop(7);
        Check.due("on a spill that was mopped", floor.placeBowl(7), 5);
        Check.due("where the walker is", Check.floor("floor 2 2").placeBowl(0), 1);
    }

    private static void mop() {
        Sentence.promise(60, "Throws IndexOutOfBoundsException if there is no such tile");
        Check.indexes("mop of 4", 4, tile -> Check.floor("floor 2 2;spill 0 9;spill 3 9").mop(tile));
        Check.indexes("mop of 80", 80, tile -> Check.floor("floor 8 10;spill 0 9;spill 79 9").mop(tile));
        Sentence.promise(60, "Returns the number of minutes that it still needed to dry.");
        Check.due("mop of 99", Check.floor("floor 2 2;spill 3 99").mop(3), 99);
        Check.due("mop of 2 after a minute", Check.floor("floor 2 2;spill 3 2;advance 1").mop(3), 1);
        Check.due("mop of 1", Check.floor("floor 2 2;spill 3 1").mop(3), 1);
        MoonlitFloor floor = Check.floor("floor 2 2;spill 2 5;spill 3 9");
        floor.mop(3);
        Check.due("spillTime 3", floor.spillTime(3), 0);
        Check.due("spillTime 2", floor.spillTime(2), 5);
    }

    private static void mopWithoutASpill() {
        Sentence.promise(60, "Throws IllegalArgumentException if there is no spill on the tile");
        MoonlitFloor floor = Check.floor("floor 2 3;bowl 1;spill 2 1;spill 5 2");
        Check.noArgument("a dry tile", () -> floor.mop(0));
        Check.noArgument("a bowl", () -> floor.mop(1));
        floor.advance(1);
        Check.noArgument("a spill that has dried", () -> floor.mop(2));
        Check.due("a spill of 1", floor.mop(5), 1);
        Check.noArgument("a spill that was mopped", () -> floor.mop(5));
    }

    private static void turnWalker() {
        Sentence.promise(61, "Returns true if it faces right afterwards.");
        MoonlitFloor floor = Check.floor("floor 2 2;walker 0 right");
        Check.due("turnWalker", floor.turnWalker(), false);
        Check.due("facesRight", floor.facesRight(), false);
        Check.due("turnWalker again", floor.turnWalker(), true);
        Check.due("facesRight", floor.facesRight(), true);
        Check.due("off the floor", Check.floor("floor 2 2;night 0;walker 0 left").turnWalker(), true);
        Check.due("resting", Check.floor("floor 2 3;stamina 1;advance 1").turnWalker(), false);
    }

    // ---- promises 62 and 63, and section 7

    private static void undoOfNothing() {
        Sentence.promise(62, "Throws IllegalStateException if there is nothing to undo");
        MoonlitFloor floor = new MoonlitFloor();
        Check.noSetup("without a setup", floor::undo);
        Check.fill(floor, "floor 2 2");
        floor.parseSetup(9);
        Check.noSetup("without a change", floor::undo);
        floor.setPace(2);
        Check.due("with one change", floor.undo(), 0);
        Check.noSetup("after it was undone", floor::undo);
        Check.due("pace", floor.pace(), 1);
        Check.noSetup("events are no changes", Check.floor("floor 2 2;turn;pace 2;advance 9")::undo);
    }

    private static void undoToTheLast() {
        Sentence.promise(62, "Undoes the latest change that has not been undone.");
        MoonlitFloor floor = Check.floor(SHUTTLE);
        floor.setPace(2);
        floor.setPace(3);
        floor.setPace(4);
        int[] left = {2, 1, 0};
        int[] paces = {3, 2, 1};
        for (int i = 0; i < 3; i++) {
            Check.due("undo", floor.undo(), left[i]);
            Check.due("pace", floor.pace(), paces[i]);
            Check.due("undoCount", floor.undoCount(), left[i]);
        }
        Check.noSetup("undo of nothing", floor::undo);
        Check.due("pace", floor.pace(), 1);
    }

    private static void undoCount() {
        Sentence.promise(63, "Returns the number, 0 to 8.");
        Check.due("without a setup", new MoonlitFloor().undoCount(), 0);
        MoonlitFloor floor = Check.floor(SHUTTLE);
        int[] due = {0, 1, 2, 3, 4, 5, 6, 7, 8, 8, 8};
        for (int changes = 0; changes < due.length; changes++) {
            Check.due("undoCount after " + changes, floor.undoCount(), due[changes]);
            floor.turnWalker();
        }
    }

    private static void eightChanges() {
        Sentence.term("At most the latest 8 changes since the latest successful call of parseSetup or restoreState can be undone.");
        for (int changes = 7; changes <= 17; changes++) {
            MoonlitFloor floor = Check.floor(SHUTTLE);
            for (int i = 0; i < changes; i++) {
                floor.advance(1);
            }
            int kept = Math.min(changes, 8);
            for (int left = kept - 1; left >= 0; left--) {
                Check.due("undo", floor.undo(), left);
                Check.due("minute", floor.minute(), changes - kept + left);
            }
            Check.noSetup("undo beyond " + kept, floor::undo);
            Check.due("minute", floor.minute(), changes - kept);
            floor.advance(1);
            Check.due("minute after a new change", floor.minute(), changes - kept + 1);
            Check.due("undo of the new change", floor.undo(), 0);
            Check.due("minute", floor.minute(), changes - kept);
        }
    }

    private static void changesAfterUndo() {
        Sentence.promise(62, "Undoes the latest change that has not been undone.");
        MoonlitFloor floor = Check.floor(SHUTTLE);
        floor.setPace(2);
        floor.setPace(3);
        floor.undo();
        floor.setPace(4);
        Check.due("undoCount", floor.undoCount(), 2);
        Check.due("undo of 4", floor.undo(), 1);
        Check.due("pace", floor.pace(), 2);
        Check.due("undo of 2", floor.undo(), 0);
        Check.due("pace", floor.pace(), 1);
        Check.noSetup("nothing more", floor::undo);
    }

    private static void changesAfterParseAndRestore() {
        Sentence.term("At most the latest 8 changes since the latest successful call of parseSetup or restoreState can be undone.");
        MoonlitFloor floor = Check.floor(SHUTTLE);
        floor.setPace(2);
        floor.saveState(0);
        floor.setPace(3);
        floor.restoreState(0);
        Check.due("undoCount after restoreState", floor.undoCount(), 0);
        floor.setPace(4);
        Check.due("undo", floor.undo(), 0);
        Check.noSetup("no change before restoreState", floor::undo);
        Check.due("pace", floor.pace(), 2);
        floor.setPace(5);
        Check.noSetup("restoreState that is refused", () -> floor.restoreState(1));
        Check.noArgument("parseSetup that is refused", () -> floor.parseSetup(0));
        Check.noIndex("parseSetup that is refused", () -> floor.parseSetup(1));
        Check.due("undoCount after them", floor.undoCount(), 1);
        Check.fill(floor, "floor 2 2");
        floor.parseSetup(9);
        Check.due("undoCount after parseSetup", floor.undoCount(), 0);
        Check.noSetup("no change before parseSetup", floor::undo);
        Check.due("pace", floor.pace(), 1);
    }

    private static void changesThatChangeNothing() {
        Sentence.term("Each successful call of a method in the section \"changes\" above undo() can be undone, even if it changed"
                + " nothing.");
        MoonlitFloor floor = Check.floor("floor 2 2;light 20;pace 3;curtain 1;spill 2 9");
        String[] before = States.of(floor);
        floor.setPace(3);
        Check.due("undoCount after the same pace", floor.undoCount(), 1);
        floor.setCurtain(1, true);
        Check.due("undoCount after the same curtain", floor.undoCount(), 2);
        floor.setCurtain(0, false);
        Check.due("undoCount after an open curtain", floor.undoCount(), 3);
        States.same("after three changes", States.of(floor), before);
        for (int left = 2; left >= 0; left--) {
            Check.due("undo", floor.undo(), left);
        }
        floor.advance(1);
        floor.placeBowl(3);
        floor.mop(2);
        floor.turnWalker();
        floor.setPace(1);
        floor.setCurtain(1, false);
        for (int left = 5; left >= 0; left--) {
            Check.due("undo of each sort", floor.undo(), left);
        }
        States.same("after all is undone", States.of(floor), before);
    }

    private static void noChangesBelowUndo() {
        Sentence.term("Each successful call of a method in the section \"changes\" above undo() can be undone,");
        MoonlitFloor floor = Check.floor(SHUTTLE);
        floor.setPace(2);
        floor.saveState(0);
        floor.saveState(1);
        floor.stepsAtPace(5, 300);
        floor.writeRow(0);
        floor.append(0, 0, 0, 0, 0);
        Check.due("undoCount", floor.undoCount(), 1);
        Check.noArgument("advance 0", () -> floor.advance(0));
        Check.noArgument("advance 301", () -> floor.advance(301));
        Check.noArgument("setPace 0", () -> floor.setPace(0));
        Check.noIndex("setCurtain 2", () -> floor.setCurtain(2, true));
        Check.noIndex("placeBowl 4", () -> floor.placeBowl(4));
        Check.noArgument("mop 0", () -> floor.mop(0));
        Check.due("undoCount after what was refused", floor.undoCount(), 1);
        Check.due("undo", floor.undo(), 0);
        Check.due("pace", floor.pace(), 1);
    }

    private static void whatUndoLeaves() {
        Sentence.term("Undoing and restoring do not affect the input buffer and the output.");
        MoonlitFloor floor = Check.floor("floor 2 3;light 20");
        floor.saveState(0);
        floor.advance(1);
        Check.fill(floor, "floor 2 4;night   12");
        floor.writeRow(0);
        floor.undo();
        Check.due("output after undo", Check.output(floor, 3), "*W*");
        Check.noIndex("output after undo", () -> floor.outputByte(3));
        Check.due("bufferLength after undo", floor.bufferLength(), 20);
        floor.restoreState(0);
        Check.due("output after restoreState", Check.output(floor, 3), "*W*");
        Check.noIndex("output after restoreState", () -> floor.outputByte(3));
        Check.due("bufferLength after restoreState", floor.bufferLength(), 20);
        Check.due("the buffer itself", floor.parseSetup(20), 8);
        Check.due("night", floor.night(), 12);
        // before the first output, and with an empty buffer
        MoonlitFloor other = Check.floor("floor 2 3");
        other.saveState(1);
        other.turnWalker();
        other.undo();
        other.restoreState(1);
        Check.noIndex("no output", () -> other.outputByte(0));
        Check.due("an empty buffer", other.bufferLength(), 0);
    }

    // ---- promises 64 and 65

    private static void saveState() {
        Sentence.promise(64, "Throws IndexOutOfBoundsException if there is no such slot");
        Check.indexes("saveState", 2, slot -> Check.floor(SHUTTLE).saveState(slot));
        Sentence.promise(64, "Returns the number of the current night.");
        Check.due("night 0", Check.floor("floor 2 2;night 0").saveState(0), 0);
        Check.due("the last minute of night 999", Check.floor("floor 2 2;light 1;night 999;advance 1").saveState(1), 999);
        Check.due("night 1000", Check.floor("floor 2 2;light 1;night 999;advance 2").saveState(1), 1000);
    }

    private static void saveOverAState() {
        Sentence.promise(64, "A state that was saved there before is lost.");
        MoonlitFloor floor = Check.floor(SHUTTLE);
        floor.saveState(0);
        floor.saveState(1);
        floor.setPace(5);
        floor.saveState(0);
        floor.setPace(3);
        floor.restoreState(0);
        Check.due("pace of slot 0", floor.pace(), 5);
        floor.restoreState(1);
        Check.due("pace of slot 1", floor.pace(), 1);
    }

    private static void restoreState() {
        Sentence.promise(65, "Throws IndexOutOfBoundsException if there is no such slot");
        MoonlitFloor both = Check.floor(SHUTTLE);
        both.saveState(0);
        both.saveState(1);
        Check.indexes("restoreState", 2, both::restoreState);
        MoonlitFloor none = new MoonlitFloor();
        for (int slot : new int[] {-1, 2, Integer.MIN_VALUE, Integer.MAX_VALUE}) {
            Check.noIndex("restoreState without a setup, " + slot, () -> none.restoreState(slot));
        }
        Sentence.promise(65, "Returns the number of the night of the restored state.");
        MoonlitFloor floor = Check.floor("floor 2 2;light 1;night 0");
        floor.saveState(1);
        floor.advance(7);
        floor.saveState(0);
        Check.due("restoreState 1", floor.restoreState(1), 0);
        Check.due("night", floor.night(), 0);
        Check.due("restoreState 0", floor.restoreState(0), 3);
        Check.due("night", floor.night(), 3);
        Check.due("minute", floor.minute(), 1);
    }

    private static void restoreOfNothing() {
        Sentence.promise(65, "Throws IllegalStateException if no state is saved in the slot");
        MoonlitFloor floor = new MoonlitFloor();
        Check.noSetup("restoreState 0 without a setup", () -> floor.restoreState(0));
        Check.noSetup("restoreState 1 without a setup", () -> floor.restoreState(1));
        Check.fill(floor, SHUTTLE);
        floor.parseSetup(SHUTTLE.length());
        Check.noSetup("restoreState 0 without a state", () -> floor.restoreState(0));
        Check.noSetup("restoreState 1 without a state", () -> floor.restoreState(1));
        floor.saveState(1);
        Check.noSetup("restoreState 0 with a state in slot 1", () -> floor.restoreState(0));
        Check.due("restoreState 1", floor.restoreState(1), 15);
        MoonlitFloor other = Check.floor(SHUTTLE);
        other.saveState(0);
        Check.noSetup("restoreState 1 with a state in slot 0", () -> other.restoreState(1));
        Check.due("restoreState 0", other.restoreState(0), 15);
    }

    private static void restoredStateStays() {
        Sentence.promise(65, "Restores the state that was saved in a slot. It stays saved.");
        String setup = "floor 2 3;light 2;pace 2;draught 1 3;rug 1;cat 5 left left right;stamina 5;bowl 4;advance 3";
        MoonlitFloor floor = Check.floor(setup);
        floor.saveState(1);
        String[] saved = States.of(floor);
        for (int i = 0; i < 3; i++) {
            floor.advance(50);
            floor.setPace(5);
            floor.restoreState(1);
            States.same("restored", States.of(floor), saved);
        }
        MoonlitFloor twin = Check.floor(setup);
        twin.advance(50);
        floor.advance(50);
        States.same("goes on as it would have", States.of(floor), States.of(twin));
    }

    private static void restoreClears() {
        Sentence.promise(65, "The undo history is cleared.");
        MoonlitFloor floor = Check.floor(SHUTTLE);
        floor.saveState(0);
        for (int i = 0; i < 9; i++) {
            floor.turnWalker();
        }
        floor.restoreState(0);
        Check.due("undoCount", floor.undoCount(), 0);
        Check.noSetup("undo", floor::undo);
        for (int i = 1; i <= 9; i++) {
            floor.turnWalker();
            Check.due("undoCount", floor.undoCount(), Math.min(i, 8));
        }
    }

    private static void undoLeavesSavedStates() {
        Sentence.promise(62, "Undoes the latest change that has not been undone.");
        MoonlitFloor floor = Check.floor(SHUTTLE);
        floor.setPace(4);
        floor.saveState(0);
        floor.undo();
        Check.due("pace", floor.pace(), 1);
        Check.due("restoreState", floor.restoreState(0), 15);
        Check.due("pace of the saved state", floor.pace(), 4);
    }

    // ---- the head of the document

    private static void fiveHundredAndTwelveCalls() {
        Sentence.term("An object is used for at most 512 calls after it has been made;");
        MoonlitFloor floor = new MoonlitFloor();
        floor.append(0x666c6f6f, 0x72203220, 0x323b6e69, 0x67687420, 0x31202020);
        Check.due("call 2", floor.parseSetup(18), 4);
        for (int call = 3; call <= 511; call++) {
            Check.due("call " + call, floor.turnWalker(), call % 2 == 0);
        }
        Check.due("call 512", floor.undo(), 7);
        MoonlitFloor longest = Check.floor(SHUTTLE);
        for (int call = 3; call <= 511; call++) {
            longest.advance(300);
        }
        Check.due("the night after 152700 minutes, in call 512", longest.night(), 3832);
    }
}
