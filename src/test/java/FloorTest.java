/** Promises 7 to 19, and section 1: the floor and the moonlight. */
final class FloorTest {
    private FloorTest() {
    }

    public static void main(String[] args) {
        withoutSetup();
        sizes();
        nightAndMinute();
        brightness();
        moonRow();
        moonShines();
        isLit();
        curtainsAndDraughts();
        stirredCurtains();
        minutesUntilLit();
        nightsUntilFullMoon();
        wrongIndexes();
        Check.end();
    }

    private static void withoutSetup() {
        MoonlitFloor floor = new MoonlitFloor();
        Check.noSetup("rows", floor::rows);
        Check.noSetup("columns", floor::columns);
        Check.noSetup("minutesPerRow", floor::minutesPerRow);
        Check.noSetup("night", floor::night);
        Check.noSetup("minute", floor::minute);
        Check.noSetup("brightness", floor::brightness);
        Check.noSetup("moonRow", floor::moonRow);
        Check.noSetup("moonShines", floor::moonShines);
        Check.noSetup("isLit", () -> floor.isLit(-1));
        Check.noSetup("isCurtainClosed", () -> floor.isCurtainClosed(-1));
        Check.noSetup("draughtPeriod", () -> floor.draughtPeriod(-1));
        Check.noSetup("minutesUntilLit", () -> floor.minutesUntilLit(-1));
        Check.noSetup("nightsUntilFullMoon", floor::nightsUntilFullMoon);
    }

    /** Promises 7, 8 and 9. */
    private static void sizes() {
        MoonlitFloor least = Check.floor("floor 2 2;light 1");
        Check.due("rows", least.rows(), 2);
        Check.due("columns", least.columns(), 2);
        Check.due("minutesPerRow", least.minutesPerRow(), 1);
        MoonlitFloor most = Check.floor("floor 8 10;light 20");
        Check.due("rows", most.rows(), 8);
        Check.due("columns", most.columns(), 10);
        Check.due("minutesPerRow", most.minutesPerRow(), 20);
        MoonlitFloor other = Check.floor("floor 3 7");
        Check.due("rows", other.rows(), 3);
        Check.due("columns", other.columns(), 7);
    }

    /** Promises 10 and 11. */
    private static void nightAndMinute() {
        MoonlitFloor floor = Check.floor("floor 3 2;light 2;night 999");
        for (int passed = 0; passed < 20; passed++) {
            Check.due("night after " + passed, floor.night(), 999 + passed / 6);
            Check.due("minute after " + passed, floor.minute(), passed % 6);
            floor.advance(1);
        }
        Check.due("the first night", Check.floor("floor 2 2;night 0").night(), 0);
    }

    /** Promise 12. */
    private static void brightness() {
        int[] nights = {0, 1, 14, 15, 16, 29, 30, 31, 45, 46, 59, 60, 999};
        int[] due = {0, 1, 14, 15, 14, 1, 0, 1, 15, 14, 1, 0, 9};
        for (int i = 0; i < nights.length; i++) {
            Check.due("brightness of night " + nights[i],
                    Check.floor("floor 2 2;night " + nights[i]).brightness(), due[i]);
        }
        MoonlitFloor floor = Check.floor("floor 2 2;light 1;cloud 0 1");
        floor.advance(2);
        Check.due("brightness of the next night, by cloud", floor.brightness(), 14);
    }

    /** Promise 13. */
    private static void moonRow() {
        MoonlitFloor floor = Check.floor("floor 3 2;light 4;night 0;cloud 0 11");
        for (int passed = 0; passed < 24; passed++) {
            Check.due("moonRow after " + passed, floor.moonRow(), passed % 12 / 4);
            floor.advance(1);
        }
    }

    /** Promise 14. */
    private static void moonShines() {
        Check.due("moonShines in a dark night", Check.floor("floor 2 2;night 0").moonShines(), false);
        Check.due("moonShines in a dark night", Check.floor("floor 2 2;night 60").moonShines(), false);
        Check.due("moonShines in night 1", Check.floor("floor 2 2;night 1").moonShines(), true);
        Check.due("moonShines in night 29", Check.floor("floor 2 2;night 29").moonShines(), true);
        MoonlitFloor floor = Check.floor("floor 2 2;light 6;cloud 2 3;cloud 5 5;cloud 11 159;cloud 2 2");
        String clouds = "001101000001";
        for (int passed = 0; passed < 24; passed++) {
            Check.due("moonShines after " + passed, floor.moonShines(), clouds.charAt(passed % 12) == '0');
            floor.advance(1);
        }
    }

    /** Promises 15 and 16. */
    private static void isLit() {
        MoonlitFloor floor = Check.floor("floor 3 4;light 2;curtain 1;cloud 3 3");
        String[] due = {"*.**........", "*.**........", "....*.**....", "............", "........*.**", "........*.**"};
        for (int minute = 0; minute < due.length; minute++) {
            for (int tile = 0; tile < 12; tile++) {
                Check.due("isLit " + tile + " in minute " + minute, floor.isLit(tile),
                        due[minute].charAt(tile) == '*');
            }
            floor.advance(1);
        }
        Check.due("isLit in a dark night", Check.floor("floor 2 2;night 30").isLit(0), false);
        floor.setCurtain(1, false);
        floor.setCurtain(0, true);
        Check.due("isLit of an opened column", floor.isLit(1), true);
        Check.due("isLit of a closed column", floor.isLit(0), false);
        Check.due("isCurtainClosed 1", floor.isCurtainClosed(1), false);
        Check.due("isCurtainClosed 0", floor.isCurtainClosed(0), true);
        Check.due("a spill does not darken", Check.floor("floor 2 2;spill 1 9").isLit(1), true);
    }

    /** Promise 17. */
    private static void curtainsAndDraughts() {
        MoonlitFloor floor = Check.floor("floor 2 10;curtain 9 4;draught 9 2;draught 0 60");
        for (int column = 0; column < 10; column++) {
            Check.due("isCurtainClosed " + column, floor.isCurtainClosed(column), column == 9 || column == 4);
            Check.due("draughtPeriod " + column, floor.draughtPeriod(column), column == 9 ? 2 : column == 0 ? 60 : 0);
        }
    }

    private static void stirredCurtains() {
        MoonlitFloor floor = Check.floor("floor 2 3;light 5;curtain 1;draught 1 3;draught 2 4;draught 0 11");
        // the new minutes are 1 to 9, then 0, and so once more; a period of 11 divides only the 0
        String[] due = {"00000000011111111110", "11000111011100011101", "00011110011110000110"};
        for (int passed = 1; passed <= 20; passed++) {
            floor.advance(1);
            for (int column = 0; column < 3; column++) {
                Check.due("isCurtainClosed " + column + " after " + passed, floor.isCurtainClosed(column),
                        due[column].charAt(passed - 1) == '1');
            }
        }
    }

    /** Promise 18. */
    private static void minutesUntilLit() {
        MoonlitFloor floor = Check.floor("floor 3 4;light 2;night 20;curtain 1;draught 2 3;cloud 2 3");
        Check.due("minutesUntilLit 0", floor.minutesUntilLit(0), 0);
        Check.due("minutesUntilLit of a closed column", floor.minutesUntilLit(1), -1);
        Check.due("minutesUntilLit of a clouded row", floor.minutesUntilLit(4), -1);
        Check.due("minutesUntilLit 8", floor.minutesUntilLit(8), 4);
        Check.due("minutesUntilLit 10", floor.minutesUntilLit(10), -1);
        floor.advance(3);
        Check.due("minutesUntilLit 2", floor.minutesUntilLit(2), 3);
        Check.due("minutesUntilLit 8", floor.minutesUntilLit(8), 1);
        Check.due("minute after predictions", floor.minute(), 3);
        Check.due("undoCount after predictions", floor.undoCount(), 1);
        MoonlitFloor dark = Check.floor("floor 8 2;light 20;night 0");
        Check.due("minutesUntilLit after a dark night", dark.minutesUntilLit(0), 160);
        Check.due("minutesUntilLit after a dark night", dark.minutesUntilLit(15), 300);
        // open in minute 20 of every other night, and dark in night 30
        String draughty = "floor 8 2;light 20;night 29;curtain 0;draught 0 60";
        Check.due("minutesUntilLit, at the bound", Check.floor(draughty).minutesUntilLit(2), 500);
        MoonlitFloor beyond = Check.floor(draughty + ";cloud 20 20");
        Check.due("minutesUntilLit, beyond the bound", beyond.minutesUntilLit(2), -1);
        beyond.advance(1);
        Check.due("minutesUntilLit, a minute later", beyond.minutesUntilLit(2), 500);
    }

    /** Promise 19. */
    private static void nightsUntilFullMoon() {
        int[] nights = {0, 14, 15, 16, 29, 30, 44, 45, 46, 999};
        int[] due = {15, 1, 0, 29, 16, 15, 1, 0, 29, 6};
        for (int i = 0; i < nights.length; i++) {
            Check.due("nightsUntilFullMoon in night " + nights[i],
                    Check.floor("floor 2 2;night " + nights[i]).nightsUntilFullMoon(), due[i]);
        }
    }

    private static void wrongIndexes() {
        MoonlitFloor floor = Check.floor("floor 3 4;night 0");
        for (int tile : new int[] {-1, 12, 79, 80, Integer.MIN_VALUE, Integer.MAX_VALUE}) {
            Check.noIndex("isLit " + tile, () -> floor.isLit(tile));
            Check.noIndex("minutesUntilLit " + tile, () -> floor.minutesUntilLit(tile));
        }
        for (int column : new int[] {-1, 4, 9, 10, Integer.MIN_VALUE, Integer.MAX_VALUE}) {
            Check.noIndex("isCurtainClosed " + column, () -> floor.isCurtainClosed(column));
            Check.noIndex("draughtPeriod " + column, () -> floor.draughtPeriod(column));
        }
        Check.due("isLit of the last tile", floor.isLit(11), false);
        Check.due("isCurtainClosed of the last column", floor.isCurtainClosed(3), false);
    }
}
