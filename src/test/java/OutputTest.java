/** Promises 53 to 55: the text output. */
final class OutputTest {
    private OutputTest() {
    }

    public static void main(String[] args) {
        withoutSetup();
        writeRow();
        writeRecords();
        outputByte();
        outputStays();
        Check.end();
    }

    private static void withoutSetup() {
        MoonlitFloor floor = new MoonlitFloor();
        Check.noSetup("writeRow", () -> floor.writeRow(-1));
        Check.noSetup("writeRecords", floor::writeRecords);
        Check.noIndex("outputByte 0", () -> floor.outputByte(0));
    }

    private static void row(String setup, int row, String due) {
        Check.due("row " + row + " of " + setup, Check.row(Check.floor(setup), row), due);
    }

    /** Promise 53. */
    private static void writeRow() {
        String all = "floor 2 7;light 20;rug 5;cat 1;bowl 2 4;spill 3 9";
        row(all, 0, "WCo~or*");
        row(all, 1, ".......");
        row("floor 2 7;light 20;curtain 6;rug 1 2;cat 0;bowl 1;spill 2 9", 0, "Wo~***.");
        row("floor 2 4;rug 3;cat 3;bowl 3", 0, "W**C");
        row("floor 2 4;rug 3;cat 3;spill 3 9", 0, "W**C");
        row("floor 2 4;rug 0;cat 0;bowl 0", 0, "W***");
        row("floor 2 4;spill 0 9", 0, "W***");
        row("floor 2 4;rug 6;cat 5;bowl 7;spill 4 1", 1, "~Cro");
        row("floor 2 4;cloud 0 0;rug 1", 0, ".r..");
        row("floor 2 4;night 0", 0, "....");
        row("floor 8 10;cat 79", 7, ".........C");
        row("floor 2 2;light 1;advance 1", 1, "*W");
        MoonlitFloor floor = Check.floor("floor 3 7");
        Check.due("writeRow", floor.writeRow(2), 7);
        for (int row : new int[] {-1, 3, 8, Integer.MIN_VALUE, Integer.MAX_VALUE}) {
            Check.noIndex("writeRow " + row, () -> floor.writeRow(row));
        }
    }

    /** Promise 54. */
    private static void writeRecords() {
        MoonlitFloor none = Check.floor("floor 2 2");
        Check.due("writeRecords", none.writeRecords(), 1);
        Check.due("the hyphen", none.outputByte(0), 45);
        MoonlitFloor floor = Check.floor("floor 2 10;light 1;advance 2;pace 3;advance 2;pace 2;advance 2");
        Check.due("writeRecords", floor.writeRecords(), 14);
        Check.due("records", Check.records(floor), "16:6 17:3 15:2");
        Check.due("one record", Check.records(Check.floor("floor 2 10;light 9;night 999;advance 18")), "999:17");
        Check.due("night 0 has no steps", Check.records(Check.floor("floor 2 2;light 1;night 0;advance 4")), "1:1");
        Check.due("ten records", Check.records(Check.floor("floor 2 2;light 1;night 1;advance 24")),
                "1:1 2:1 3:1 4:1 5:1 6:1 7:1 8:1 9:1 10:1");
    }

    /** Promise 55. */
    private static void outputByte() {
        MoonlitFloor floor = Check.floor("floor 2 3;cat 1;bowl 2");
        for (int index : new int[] {-1, 0, 1, Integer.MIN_VALUE, Integer.MAX_VALUE}) {
            Check.noIndex("outputByte " + index + " before the first output", () -> floor.outputByte(index));
        }
        floor.writeRow(0);
        Check.due("outputByte 0", floor.outputByte(0), 87);
        Check.due("outputByte 1", floor.outputByte(1), 67);
        Check.due("outputByte 2", floor.outputByte(2), 111);
        for (int index : new int[] {-1, 3, Integer.MIN_VALUE, Integer.MAX_VALUE}) {
            Check.noIndex("outputByte " + index, () -> floor.outputByte(index));
        }
        // a shorter output replaces the longer one
        Check.due("writeRecords", floor.writeRecords(), 1);
        Check.due("outputByte 0", floor.outputByte(0), 45);
        Check.noIndex("outputByte 1", () -> floor.outputByte(1));
        Check.due("writeRow once more", floor.writeRow(1), 3);
        Check.due("outputByte 0", floor.outputByte(0), 46);
    }

    private static void outputStays() {
        MoonlitFloor floor = Check.floor("floor 2 3;cat 1");
        floor.saveState(0);
        floor.writeRow(0);
        floor.turnWalker();
        floor.advance(5);
        floor.setCurtain(0, true);
        floor.undo();
        Check.due("output after undo", Check.output(floor, 3), "WC*");
        floor.restoreState(0);
        Check.due("output after restoreState", Check.output(floor, 3), "WC*");
        Check.noIndex("writeRow 2", () -> floor.writeRow(2));
        Check.due("output after an exception", Check.output(floor, 3), "WC*");
        floor.stepsAfter(20);
        Check.due("output after a prediction", Check.output(floor, 3), "WC*");
        Check.noIndex("outputByte 3", () -> floor.outputByte(3));
    }
}
