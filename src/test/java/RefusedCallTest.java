import java.lang.reflect.InvocationTargetException;
import java.lang.reflect.Method;
import java.lang.reflect.Modifier;
import java.util.ArrayList;
import java.util.List;
import java.util.Set;
import java.util.TreeSet;

/** Section 7: which exception a call throws, and that a call that throws one changes nothing. */
final class RefusedCallTest {
    private static final Class<IllegalStateException> STATE = IllegalStateException.class;
    private static final Class<IllegalArgumentException> ARGUMENT = IllegalArgumentException.class;
    private static final Class<IndexOutOfBoundsException> INDEX = IndexOutOfBoundsException.class;
    private static final int MIN = Integer.MIN_VALUE;
    private static final int MAX = Integer.MAX_VALUE;
    private static final Set<String> WITHOUT_A_SETUP = Set.of("append", "parseSetup", "parseErrorCode", "parseErrorPosition",
            "bufferLength", "outputByte", "undoCount", "undo", "restoreState");

    private interface FloorCall {
        Object on(MoonlitFloor floor);
    }

    private interface NumberCall {
        Object on(MoonlitFloor floor, int number);
    }

    private record Refused(String what, Class<? extends RuntimeException> due, FloorCall call) {
    }

    private static final List<Refused> REFUSED = new ArrayList<>();

    private RefusedCallTest() {
    }

    public static void main(String[] args) throws IllegalAccessException {
        everyMethodWithoutASetup();
        methodsThatNeedNoSetup();
        setupThatWasInvalid();
        firstOfSeveralExceptions();
        preparedFloor();
        listIndexes();
        listNumbers();
        listOthers();
        refusedCallsChangeNothing();
        refusedSetupsChangeNoSimulation();
        answersChangeNothing();
        outputAlone();
        Check.end();
    }

    // ---- without a setup

    private static List<Object[]> arguments(Method method) {
        List<Object[]> lists = new ArrayList<>();
        lists.add(new Object[method.getParameterCount()]);
        for (int place = 0; place < method.getParameterCount(); place++) {
            Object[] values = method.getParameterTypes()[place] == boolean.class ? new Object[] {true, false}
                    : new Object[] {MIN, -1, 0, 1, 2, MAX};
            List<Object[]> longer = new ArrayList<>();
            for (Object[] list : lists) {
                for (Object value : values) {
                    Object[] copy = list.clone();
                    copy[place] = value;
                    longer.add(copy);
                }
            }
            lists = longer;
        }
        return lists;
    }

    private static void everyMethodWithoutASetup() throws IllegalAccessException {
        Sentence.term("All methods except append, parseSetup, parseErrorCode, parseErrorPosition, bufferLength, outputByte,"
                + " undoCount, undo and restoreState throw IllegalStateException if no setup has been loaded.");
        Set<String> seen = new TreeSet<>();
        for (Method method : MoonlitFloor.class.getDeclaredMethods()) {
            if (!Modifier.isPublic(method.getModifiers()) || WITHOUT_A_SETUP.contains(method.getName())) {
                continue;
            }
            seen.add(method.getName());
            Sentence.promiseOf(method.getName(), "Throws IllegalStateException if no setup has been loaded");
            MoonlitFloor floor = new MoonlitFloor();
            for (Object[] list : arguments(method)) {
                Object got;
                try {
                    got = method.invoke(floor, list);
                } catch (InvocationTargetException e) {
                    got = e.getCause().getClass();
                }
                Check.due(method.getName() + " of a new object", got, STATE);
            }
            Check.due("bufferLength after " + method.getName(), floor.bufferLength(), 0);
            Check.due("undoCount after " + method.getName(), floor.undoCount(), 0);
            Check.noIndex("outputByte after " + method.getName(), () -> floor.outputByte(0));
            Check.noSetup("restoreState after " + method.getName(), () -> floor.restoreState(0));
        }
        Check.due("methods that need a setup", seen.size(), 55);
    }

    private static void methodsThatNeedNoSetup() {
        Sentence.term("All methods except append, parseSetup, parseErrorCode, parseErrorPosition, bufferLength, outputByte,"
                + " undoCount, undo and restoreState throw IllegalStateException if no setup has been loaded.");
        MoonlitFloor floor = new MoonlitFloor();
        Check.due("parseErrorCode", floor.parseErrorCode(), 0);
        Check.due("parseErrorPosition", floor.parseErrorPosition(), -1);
        Check.due("bufferLength", floor.bufferLength(), 0);
        Check.due("undoCount", floor.undoCount(), 0);
        Check.noIndex("outputByte", () -> floor.outputByte(0));
        Check.noSetup("undo", floor::undo);
        Check.noSetup("restoreState", () -> floor.restoreState(1));
        Check.noIndex("restoreState", () -> floor.restoreState(2));
        Check.noArgument("parseSetup", () -> floor.parseSetup(0));
        Check.due("append", floor.append(0, 0, 0, 0, 0), 20);
    }

    private static void setupThatWasInvalid() {
        Sentence.term("throw IllegalStateException if no setup has been loaded.");
        MoonlitFloor floor = new MoonlitFloor();
        String invalid = "floor 2 2;turn;bowl row 0;advance 9;5";
        Check.fill(floor, invalid);
        Check.noArgument(invalid, () -> floor.parseSetup(invalid.length()));
        Check.noSetup("rows", floor::rows);
        Check.noSetup("isLit", () -> floor.isLit(0));
        Check.noSetup("advance", () -> floor.advance(1));
        Check.noSetup("writeRow", () -> floor.writeRow(0));
        Check.noSetup("saveState", () -> floor.saveState(0));
        Check.due("undoCount", floor.undoCount(), 0);
        Check.fill(floor, "floor 2 2");
        floor.parseSetup(9);
        Check.due("rows after a valid one", floor.rows(), 2);
    }

    private static void firstOfSeveralExceptions() {
        Sentence.term("If several exceptions apply to a call, the exception that is listed first in its documentation is"
                + " thrown.");
        MoonlitFloor none = new MoonlitFloor();
        Check.noSetup("no setup before no tile", () -> none.spillTimeAfter(-1, -1));
        Check.noSetup("no setup before a wrong pace", () -> none.stepsAtPace(0, 301));
        Check.noSetup("no setup before a wrong slot", () -> none.saveState(2));
        Check.noIndex("a wrong slot before no state", () -> none.restoreState(-1));
        Check.noIndex("a wrong length before an invalid setup", () -> none.parseSetup(-1));
        Check.noIndex("a wrong length before an invalid setup", () -> none.parseSetup(1));
        MoonlitFloor floor = Check.floor("floor 2 2");
        Check.noIndex("no tile before wrong minutes", () -> floor.spillTimeAfter(4, 301));
        Check.noIndex("no tile before wrong minutes", () -> floor.spillTimeAfter(-1, -1));
        Check.noArgument("wrong minutes of the last tile", () -> floor.spillTimeAfter(3, 301));
        Check.noArgument("wrong minutes of the first tile", () -> floor.spillTimeAfter(0, -1));
        Check.noIndex("no tile for a bowl", () -> floor.placeBowl(4));
        Check.noIndex("no tile to mop", () -> floor.mop(4));
        Check.noIndex("a wrong slot before no state", () -> floor.restoreState(2));
    }

    // ---- a floor with something of everything

    /** Two changes, a state in slot 1, an error, an output of 3 bytes, and 20 bytes in the buffer. */
    private static MoonlitFloor prepared() {
        MoonlitFloor floor = Check.floor("floor 2 3;light 2;pace 2;drying 9;rest 2;stamina 3;noise 1;night 3;walker 0 right;"
                + "cat 2 stay down stay up;draught 1 3;cloud 3 3;rug 1;spill 3 20;bowl 4;close 2;advance 5");
        Check.fill(floor, "floor 2 1");
        try {
            floor.parseSetup(9);
        } catch (IllegalArgumentException e) {
            Check.due("code", floor.parseErrorCode(), 2);
        }
        floor.saveState(1);
        floor.setPace(3);
        floor.turnWalker();
        floor.writeRow(1);
        Check.fill(floor, "floor 2 2;night   12");
        return floor;
    }

    private static void preparedFloor() {
        MoonlitFloor floor = prepared();
        Check.due("recordCount", floor.recordCount(), 1);
        Check.due("hasBowl 4", floor.hasBowl(4), true);
        Check.due("spillTime 3", floor.spillTime(3), 15);
        Check.due("undoCount", floor.undoCount(), 2);
        Check.due("bufferLength", floor.bufferLength(), 20);
        Check.due("parseErrorCode", floor.parseErrorCode(), 2);
        Check.due("parseErrorPosition", floor.parseErrorPosition(), 8);
        Check.due("catTile", floor.catTile(), 2);
    }

    private static String output(MoonlitFloor floor) {
        StringBuilder text = new StringBuilder();
        for (int index = 0; index < 100; index++) {
            try {
                text.append((char) floor.outputByte(index));
            } catch (IndexOutOfBoundsException e) {
                break;
            }
        }
        return text.toString();
    }

    private static String answer(MoonlitFloor floor, FloorCall call) {
        try {
            return String.valueOf(call.on(floor));
        } catch (RuntimeException e) {
            return e.getClass().getName();
        }
    }

    /** All that can be asked, and all that comes to light when time passes and changes are undone. */
    private static String simulation(MoonlitFloor floor) {
        List<String> all = new ArrayList<>();
        all.add(output(floor) + " " + floor.undoCount());
        all.addAll(List.of(States.of(floor)));
        for (int undone = 0; undone < 3; undone++) {
            all.add(answer(floor, MoonlitFloor::undo) + " pace " + floor.pace() + " right " + floor.facesRight());
        }
        floor.advance(7);
        all.addAll(List.of(States.of(floor)));
        all.add(answer(floor, f -> f.restoreState(0)));
        all.add(answer(floor, f -> f.restoreState(1)));
        all.addAll(List.of(States.of(floor)));
        return String.join("\n", all);
    }

    private static String all(MoonlitFloor floor) {
        String error = floor.bufferLength() + " " + floor.parseErrorCode() + " " + floor.parseErrorPosition();
        String simulation = simulation(floor);
        return error + "\n" + simulation + "\n" + answer(floor, f -> f.parseSetup(20)) + answer(floor, MoonlitFloor::night);
    }

    // ---- what is refused on it

    private static void list(String what, Class<? extends RuntimeException> due, NumberCall call, int... numbers) {
        for (int number : numbers) {
            REFUSED.add(new Refused(what + " " + number, due, floor -> call.on(floor, number)));
        }
    }

    private static void listIndexes() {
        int[] tiles = {-1, 6, 80, MIN, MAX};
        list("isLit", INDEX, MoonlitFloor::isLit, tiles);
        list("minutesUntilLit", INDEX, MoonlitFloor::minutesUntilLit, tiles);
        list("wear", INDEX, MoonlitFloor::wear, tiles);
        list("hasRug", INDEX, MoonlitFloor::hasRug, tiles);
        list("hasBowl", INDEX, MoonlitFloor::hasBowl, tiles);
        list("spillTime", INDEX, MoonlitFloor::spillTime, tiles);
        list("spillTimeAfter", INDEX, (floor, tile) -> floor.spillTimeAfter(tile, 9), tiles);
        list("minutesUntilStep", INDEX, MoonlitFloor::minutesUntilStep, tiles);
        list("placeBowl", INDEX, MoonlitFloor::placeBowl, tiles);
        list("mop", INDEX, MoonlitFloor::mop, tiles);
        int[] columns = {-1, 3, 10, MIN, MAX};
        list("isCurtainClosed", INDEX, MoonlitFloor::isCurtainClosed, columns);
        list("draughtPeriod", INDEX, MoonlitFloor::draughtPeriod, columns);
        list("close", INDEX, (floor, column) -> floor.setCurtain(column, true), columns);
        list("open", INDEX, (floor, column) -> floor.setCurtain(column, false), columns);
        list("recordNight", INDEX, MoonlitFloor::recordNight, -1, 1, 9, 10, MIN, MAX);
        list("recordSteps", INDEX, MoonlitFloor::recordSteps, -1, 1, 9, 10, MIN, MAX);
        list("writeRow", INDEX, MoonlitFloor::writeRow, -1, 2, 8, MIN, MAX);
        list("outputByte", INDEX, MoonlitFloor::outputByte, -1, 3, MIN, MAX);
        list("saveState", INDEX, MoonlitFloor::saveState, -1, 2, MIN, MAX);
        list("restoreState", INDEX, MoonlitFloor::restoreState, -1, 2, MIN, MAX);
        list("parseSetup", INDEX, MoonlitFloor::parseSetup, -1, 21, 500, 501, MIN, MAX);
    }

    private static void listNumbers() {
        int[] minutes = {-1, 301, MIN, MAX};
        list("stepsAfter", ARGUMENT, MoonlitFloor::stepsAfter, minutes);
        list("walkerTileAfter", ARGUMENT, MoonlitFloor::walkerTileAfter, minutes);
        list("spillTimeAfter 3", ARGUMENT, (floor, number) -> floor.spillTimeAfter(3, number), minutes);
        list("spillTimeAfter 6", INDEX, (floor, number) -> floor.spillTimeAfter(6, number), minutes);
        list("stepsAtPace 5", ARGUMENT, (floor, number) -> floor.stepsAtPace(5, number), minutes);
        list("bestPace", ARGUMENT, MoonlitFloor::bestPace, minutes);
        list("bestCurtain", ARGUMENT, MoonlitFloor::bestCurtain, minutes);
        list("advance", ARGUMENT, MoonlitFloor::advance, 0, -1, 301, MIN, MAX);
        int[] paces = {0, -1, 6, MIN, MAX};
        list("setPace", ARGUMENT, MoonlitFloor::setPace, paces);
        list("stepsAtPace", ARGUMENT, (floor, pace) -> floor.stepsAtPace(pace, 300), paces);
        list("rankOf", ARGUMENT, MoonlitFloor::rankOf, 0, -1, MIN);
    }

    private static void listOthers() {
        list("placeBowl on a bowl,", ARGUMENT, MoonlitFloor::placeBowl, 4);
        list("placeBowl on a spill,", ARGUMENT, MoonlitFloor::placeBowl, 3);
        list("mop of a dry tile,", ARGUMENT, MoonlitFloor::mop, 0, 5);
        list("mop of a bowl,", ARGUMENT, MoonlitFloor::mop, 4);
        list("restoreState of no state,", STATE, MoonlitFloor::restoreState, 0);
    }

    private static void refusedCallsChangeNothing() {
        Sentence.term("A call that throws an exception changes nothing, except as stated for parseSetup.");
        String due = all(prepared());
        for (Refused refused : REFUSED) {
            MoonlitFloor floor = prepared();
            for (int times = 0; times < 2; times++) {
                Check.dueThrow(refused.what, refused.due, () -> refused.call.on(floor));
            }
            Check.due("all after " + refused.what, all(floor), due);
        }
        MoonlitFloor unchanged = Check.floor("floor 2 2;light 20;advance 7");
        String[] before = States.of(unchanged);
        Check.noSetup("undo of nothing", unchanged::undo);
        Check.noSetup("undo of nothing", unchanged::undo);
        States.same("after undo of nothing", States.of(unchanged), before);
        unchanged.turnWalker();
        Check.due("undo of a change after it", unchanged.undo(), 0);
        States.same("after that", States.of(unchanged), before);
    }

    private static void refusedSetupsChangeNoSimulation() {
        Sentence.promise(3, "the previous simulation stays unchanged");
        String due = simulation(prepared());
        String[] setups = {"", "floor 2 3;turn;bowl 0;advance 300;light 3", "floor 8 10;cat 79 up;advance 301",
            "floor 2 2;rug 1 1", "floor 2 7;night 9;rug row 0", "floor 3 3;repeat 5(advance 300;advance 200)",
            "floor 2 3;light 2;pace 2;draught 1 3;cloud 3 3;rug 1;spill 3 20;advance 50;sleep;mop 3"};
        int[] codes = {1, 1, 2, 3, 4, 4, 3};
        for (int i = 0; i < setups.length; i++) {
            MoonlitFloor floor = prepared();
            String setup = setups[i];
            Check.noIndex("a length of 501", () -> floor.parseSetup(501));
            Check.noArgument("parseSetup of no text", () -> floor.parseSetup(0));
            Check.fill(floor, setup);
            Check.noArgument(setup, () -> floor.parseSetup(setup.length()));
            Check.due("code of " + setup, floor.parseErrorCode(), codes[i]);
            Check.due("bufferLength after " + setup, floor.bufferLength(), 0);
            Check.due("simulation after " + setup, simulation(floor), due);
        }
    }

    // ---- what is not refused, and changes nothing either

    private static void answersChangeNothing() {
        Sentence.term("the interface says: ---- predictions; these methods change nothing.");
        String due = all(prepared());
        List<FloorCall> calls = List.of(f -> f.stepsAfter(300), f -> f.stepsAfter(0), f -> f.walkerTileAfter(300),
                f -> f.spillTimeAfter(5, 300), f -> f.minutesUntilStep(0), f -> f.minutesUntilStep(5),
                MoonlitFloor::minutesUntilFall, f -> f.stepsAtPace(1, 300), f -> f.stepsAtPace(5, 300), f -> f.bestPace(300),
                f -> f.bestPace(0), f -> f.bestCurtain(300), f -> f.bestCurtain(0), f -> f.minutesUntilLit(5),
                f -> f.minutesUntilLit(0), MoonlitFloor::nightsUntilFullMoon, f -> f.rankOf(1), f -> f.rankOf(MAX),
                MoonlitFloor::imbalance, MoonlitFloor::averageWear, MoonlitFloor::litShare, MoonlitFloor::blockReason,
                MoonlitFloor::stepsPerMinute, MoonlitFloor::spillCount, MoonlitFloor::undoCount, f -> f.outputByte(0));
        for (int i = 0; i < calls.size(); i++) {
            MoonlitFloor floor = prepared();
            calls.get(i).on(floor);
            Check.due("all after call " + i, all(floor), due);
        }
        MoonlitFloor floor = prepared();
        for (FloorCall call : calls) {
            call.on(floor);
        }
        Check.due("all after all calls", all(floor), due);
        MoonlitFloor saved = prepared();
        saved.saveState(1);
        Check.due("pace after saveState", saved.pace(), 3);
        Check.due("undoCount after saveState", saved.undoCount(), 2);
    }

    private static void outputAlone() {
        Sentence.promise(53, "Writes a row of the floor to the output, which replaces the previous output:");
        MoonlitFloor floor = prepared();
        Check.due("the output at first", output(floor).length(), 3);
        floor.writeRecords();
        String records = output(floor);
        Check.due("the records", records.startsWith("3:"), true);
        floor.writeRow(1);
        Check.due("all after writeRow", all(floor), all(prepared()));
        Sentence.promise(54, "Writes all records to the output, which replaces the previous output:");
        MoonlitFloor other = prepared();
        other.writeRow(0);
        other.writeRecords();
        Check.due("the records again", output(other), records);
        Check.noIndex("writeRow 2", () -> other.writeRow(2));
        Check.due("the records after a refused row", output(other), records);
        other.writeRow(1);
        Check.due("all after writeRecords and writeRow", all(other), all(prepared()));
    }
}
