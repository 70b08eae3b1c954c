/** Promises 38 to 44: records and what is counted over all tiles. */
final class RecordsTest {
    private RecordsTest() {
    }

    public static void main(String[] args) {
        withoutSetup();
        noRecords();
        order();
        equalNights();
        onlyTen();
        darkNights();
        rankOf();
        imbalance();
        averageWear();
        litShare();
        Check.end();
    }

    private static void withoutSetup() {
        MoonlitFloor floor = new MoonlitFloor();
        Check.noSetup("recordCount", floor::recordCount);
        Check.noSetup("recordNight", () -> floor.recordNight(-1));
        Check.noSetup("recordSteps", () -> floor.recordSteps(-1));
        Check.noSetup("rankOf", () -> floor.rankOf(0));
        Check.noSetup("imbalance", floor::imbalance);
        Check.noSetup("averageWear", floor::averageWear);
        Check.noSetup("litShare", floor::litShare);
    }

    private static void records(MoonlitFloor floor, int... nightsAndSteps) {
        int count = nightsAndSteps.length / 2;
        Check.due("recordCount", floor.recordCount(), count);
        for (int rank = 0; rank < count; rank++) {
            int place = rank;
            Check.due("recordNight " + rank, floor.recordNight(place), nightsAndSteps[2 * rank]);
            Check.due("recordSteps " + rank, floor.recordSteps(place), nightsAndSteps[2 * rank + 1]);
        }
        for (int rank : new int[] {-1, count, 10, Integer.MIN_VALUE, Integer.MAX_VALUE}) {
            Check.noIndex("recordNight " + rank, () -> floor.recordNight(rank));
            Check.noIndex("recordSteps " + rank, () -> floor.recordSteps(rank));
        }
    }

    private static void noRecords() {
        records(Check.floor("floor 2 2"));
        MoonlitFloor floor = Check.floor("floor 2 2;advance 9");
        records(floor);
        floor.advance(1);
        records(floor, 15, 5);
    }

    /** Promises 38, 39 and 40. */
    private static void order() {
        // 2 steps; 6 steps up to column 8; a step, a turn and two steps back
        MoonlitFloor floor = Check.floor("floor 2 10;light 1;advance 2;pace 3;advance 2;pace 2;advance 2");
        records(floor, 16, 6, 17, 3, 15, 2);
        floor.setPace(1);
        floor.advance(2);
        records(floor, 16, 6, 17, 3, 15, 2, 18, 2);
        floor.advance(2);
        records(floor, 16, 6, 17, 3, 15, 2, 18, 2, 19, 2);
        floor.setPace(3);
        floor.advance(1);
        records(floor, 16, 6, 17, 3, 15, 2, 18, 2, 19, 2);
    }

    private static void equalNights() {
        MoonlitFloor floor = Check.floor("floor 2 2;light 1;advance 6");
        records(floor, 15, 1, 16, 1, 17, 1);
        Check.due("rankOf an equal night", floor.rankOf(1), 3);
        Check.due("rankOf a better night", floor.rankOf(2), 0);
    }

    private static void onlyTen() {
        MoonlitFloor floor = Check.floor("floor 2 2;light 1;night 1;advance 18");
        Check.due("recordCount", floor.recordCount(), 9);
        Check.due("rankOf the tenth", floor.rankOf(1), 9);
        floor.advance(2);
        Check.due("recordCount", floor.recordCount(), 10);
        Check.due("rankOf the eleventh", floor.rankOf(1), -1);
        floor.advance(2);
        records(floor, 1, 1, 2, 1, 3, 1, 4, 1, 5, 1, 6, 1, 7, 1, 8, 1, 9, 1, 10, 1);
        // a step and a turn, in both minutes
        floor.setPace(2);
        floor.advance(2);
        records(floor, 12, 2, 1, 1, 2, 1, 3, 1, 4, 1, 5, 1, 6, 1, 7, 1, 8, 1, 9, 1);
        floor.advance(2);
        records(floor, 12, 2, 13, 2, 1, 1, 2, 1, 3, 1, 4, 1, 5, 1, 6, 1, 7, 1, 8, 1);
    }

    private static void darkNights() {
        MoonlitFloor floor = Check.floor("floor 2 2;light 1;night 29;advance 4");
        Check.due("night", floor.night(), 31);
        records(floor, 29, 1);
        MoonlitFloor turning = Check.floor("floor 2 2;light 1;curtain 1;advance 2");
        Check.due("turnCount", turning.turnCount(), 2);
        Check.due("night", turning.night(), 16);
        records(turning);
    }

    /** Promise 41. */
    private static void rankOf() {
        MoonlitFloor none = Check.floor("floor 2 2");
        Check.due("rankOf without records", none.rankOf(1), 0);
        Check.due("rankOf without records", none.rankOf(Integer.MAX_VALUE), 0);
        MoonlitFloor floor = Check.floor("floor 2 10;light 1;advance 2;pace 3;advance 2;pace 2;advance 2");
        int[] due = {3, 3, 2, 1, 1, 1, 0};
        for (int steps = 1; steps <= 7; steps++) {
            Check.due("rankOf " + steps, floor.rankOf(steps), due[steps - 1]);
        }
        Check.noArgument("rankOf 0", () -> floor.rankOf(0));
        Check.noArgument("rankOf -1", () -> floor.rankOf(-1));
        Check.noArgument("rankOf the least", () -> floor.rankOf(Integer.MIN_VALUE));
        records(floor, 16, 6, 17, 3, 15, 2);
    }

    /** Promise 42. */
    private static void imbalance() {
        Check.due("imbalance", Check.floor("floor 2 2").imbalance(), 0);
        MoonlitFloor floor = Check.floor("floor 4 5;light 3;pace 4;rug 7;cat 3 down left up right;noise 3;stamina 7;"
                + "draught 2 5;bowl 2 8 row 3;advance 200");
        Check.due("imbalance", floor.imbalance(), 0);
        floor.saveState(0);
        floor.advance(300);
        Check.due("imbalance later", floor.imbalance(), 0);
        floor.restoreState(0);
        Check.due("imbalance of a restored state", floor.imbalance(), 0);
    }

    /** Promise 43. */
    private static void averageWear() {
        Check.due("averageWear", Check.floor("floor 2 2").averageWear(), 0.0);
        Check.due("averageWear", Check.floor("floor 2 2;light 1;advance 2").averageWear(), 0.25);
        Check.due("averageWear", Check.floor("floor 2 3;light 9;advance 1").averageWear(), 1.0 / 6.0);
        Check.due("averageWear", Check.floor("floor 2 10;light 9;pace 4;advance 2").averageWear(), 8.0 / 20.0);
        Check.due("averageWear", Check.floor("floor 2 7;light 9;advance 5").averageWear(), 5.0 / 14.0);
    }

    /** Promise 44. */
    private static void litShare() {
        Check.due("litShare", Check.floor("floor 2 2").litShare(), 0.5f);
        Check.due("litShare", Check.floor("floor 3 7").litShare(), 7.0f / 21.0f);
        Check.due("litShare", Check.floor("floor 3 7;curtain 0 3").litShare(), 5.0f / 21.0f);
        Check.due("litShare", Check.floor("floor 2 2;curtain 0 1").litShare(), 0.0f);
        Check.due("litShare by cloud", Check.floor("floor 2 2;cloud 0 0").litShare(), 0.0f);
        Check.due("litShare in a dark night", Check.floor("floor 2 2;night 0").litShare(), 0.0f);
        Check.due("litShare", Check.floor("floor 8 10").litShare(), 10.0f / 80.0f);
    }
}
