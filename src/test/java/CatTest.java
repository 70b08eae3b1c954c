/** Promises 32 to 37, and sections 2 and 4: the cat, bowls, spills and rugs. */
final class CatTest {
    private CatTest() {
    }

    public static void main(String[] args) {
        withoutSetup();
        route();
        bowls();
        startled();
        startledInRowOne();
        notStartled();
        restingWalkerIsStartled();
        drying();
        rugs();
        rugsThatStay();
        spillCount();
        orderInTheMinute();
        wrongIndexes();
        Check.end();
    }

    private static void withoutSetup() {
        MoonlitFloor floor = new MoonlitFloor();
        Check.noSetup("catTile", floor::catTile);
        Check.noSetup("hasRug", () -> floor.hasRug(-1));
        Check.noSetup("slideCount", floor::slideCount);
        Check.noSetup("hasBowl", () -> floor.hasBowl(-1));
        Check.noSetup("spillTime", () -> floor.spillTime(-1));
        Check.noSetup("spillCount", floor::spillCount);
    }

    private static void path(String setup, int... tiles) {
        MoonlitFloor floor = Check.floor(setup);
        for (int i = 0; i < tiles.length; i++) {
            Check.due("catTile after " + i + " of " + setup, floor.catTile(), tiles[i]);
            floor.advance(1);
        }
    }

    /** Promise 32. */
    private static void route() {
        path("floor 2 3", -1, -1);
        path("floor 2 3;cat 4", 4, 4, 4);
        path("floor 2 3;night 0;cat 0 right down left up up", 0, 1, 4, 3, 0, 0, 1, 4);
        path("floor 2 3;cat 2 right left", 2, 2, 1, 2);
        path("floor 2 3;cat 3 left down right", 3, 3, 3, 4, 3, 3, 4);
        path("floor 2 3;cat 1 stay up stay down", 1, 1, 1, 1, 4, 4, 1);
        // a spill holds the cat back until it has dried, and the moves go on
        path("floor 2 5;cat 5 right;spill 6 2", 5, 5, 5, 6, 7);
        path("floor 2 5;cat 5 right left;spill 6 3", 5, 5, 5, 5, 5, 6, 5);
        // its own spill does not hold it
        path("floor 2 5;cat 5 right;bowl 6", 5, 6, 7);
        path("floor 3 3;cat 8 up right up", 8, 5, 5, 2);
    }

    /** Promise 35. */
    private static void bowls() {
        MoonlitFloor floor = Check.floor("floor 2 4;drying 5;night 0;cat 4 right stay;bowl 4 5 6");
        Check.due("hasBowl 4", floor.hasBowl(4), true);
        floor.advance(1);
        Check.due("the bowl that the cat left", floor.hasBowl(4), true);
        Check.due("the bowl that it spilled", floor.hasBowl(5), false);
        Check.due("spillTime 5", floor.spillTime(5), 4);
        Check.due("hasBowl 6", floor.hasBowl(6), true);
        Check.due("hasBowl 7", floor.hasBowl(7), false);
        MoonlitFloor still = Check.floor("floor 2 2;cat 3;bowl 3;advance 5");
        Check.due("a cat without moves spills nothing", still.hasBowl(3), true);
        Check.due("spillCount", still.spillCount(), 0);
        MoonlitFloor stay = Check.floor("floor 2 2;cat 3 stay;bowl 3;advance 1");
        Check.due("a cat that stays by a move spills", stay.hasBowl(3), false);
        MoonlitFloor edge = Check.floor("floor 2 2;cat 3 down;bowl 3;advance 1");
        Check.due("a cat that the edge holds spills", edge.hasBowl(3), false);
        MoonlitFloor held = Check.floor("floor 2 2;cat 3 left;bowl 3;spill 2 9;advance 1");
        Check.due("a cat that a spill holds spills", held.hasBowl(3), false);
        MoonlitFloor carried = Check.floor("floor 2 3;cat 3 right;bowl 4;carry 4");
        Check.due("a carried cat spills nothing", carried.hasBowl(4), true);
        carried.advance(1);
        Check.due("and goes on", carried.catTile(), 5);
        Check.due("without a spill", carried.hasBowl(4), true);
    }

    private static void startles(String setup, boolean right) {
        MoonlitFloor floor = Check.floor("floor 2 5;light 20;" + setup + ";advance 1");
        Check.due("facesRight after " + setup, floor.facesRight(), right);
        Check.due("turnCount after " + setup, floor.turnCount(), 0);
        Check.due("fallCount after " + setup, floor.fallCount(), 0);
        Check.due("walkerTile after " + setup, floor.walkerTile(), right ? 3 : 1);
    }

    /** Both are in row 1, where the walker came at the end of the first minute. */
    private static void startledInRowOne() {
        MoonlitFloor near = Check.floor("floor 2 5;light 2;noise 2;cat 9 stay stay left;bowl 8;advance 3");
        Check.due("facesRight, at the distance of the noise", near.facesRight(), false);
        Check.due("turnCount", near.turnCount(), 0);
        Check.due("walkerTile", near.walkerTile(), 6);
    }

    /** The walker stands in column 2 of row 0. */
    private static void startled() {
        startles("noise 2;walker 2 left;cat 5 right;bowl 6", true);
        startles("noise 2;walker 2 right;cat 5 right;bowl 6", true);
        startles("noise 2;walker 2 right;cat 9 left;bowl 8", false);
        startles("noise 2;walker 2 left;cat 9 left;bowl 8", false);
        startles("noise 3;walker 2 left;cat 6 left;bowl 5", true);
        startles("noise 20;walker 2 right;cat 8 right;bowl 9", false);
        startles("noise 2;walker 2 left;cat 0 stay;bowl 0", true);
    }

    private static void notStartled() {
        startles("noise 1;walker 2 left;cat 5 right;bowl 6", false);
        startles("noise 2;walker 2 left;cat 6 left;bowl 5", false);
        startles("noise 1;walker 2 right;cat 4 stay;bowl 4", true);
        // in the same column the direction stays
        startles("noise 9;walker 2 right;cat 6 right;bowl 7", true);
        startles("noise 9;walker 2 left;cat 6 right;bowl 7", false);
        // without a bowl there is no noise
        startles("noise 9;walker 2 left;cat 5 right;bowl 7", false);
        MoonlitFloor off = Check.floor("floor 2 5;night 0;noise 20;walker 4 left;cat 0 stay;bowl 0;advance 1");
        Check.due("not startled off the floor", off.facesRight(), false);
        MoonlitFloor fallen = Check.floor("floor 2 5;light 20;noise 9;rest 3;walker 2 left;cat 2 stay;bowl 2;advance 1");
        Check.due("a fall keeps the direction", fallen.facesRight(), false);
    }

    private static void restingWalkerIsStartled() {
        MoonlitFloor floor = Check.floor("floor 2 5;light 20;noise 20;stamina 1;walker 3 left;cat 5 stay right;bowl 6");
        floor.advance(1);
        Check.due("restRemaining", floor.restRemaining(), 1);
        Check.due("facesRight before the noise", floor.facesRight(), false);
        floor.advance(1);
        Check.due("facesRight after the noise", floor.facesRight(), true);
        Check.due("restRemaining after the noise", floor.restRemaining(), 0);
        Check.due("walkerTile", floor.walkerTile(), 2);
    }

    /** Promise 36. */
    private static void drying() {
        MoonlitFloor floor = Check.floor("floor 2 3;drying 3;night 0;rug 4;cat 3 stay stay right left;"
                + "spill 5 99;spill 1 1;bowl 3 4");
        int[] three = {0, 2, 1, 0, 0};
        int[] four = {0, 0, 0, 1, 0};
        int[] five = {99, 98, 97, 96, 95};
        int[] one = {1, 0, 0, 0, 0};
        for (int i = 0; i < 5; i++) {
            Check.due("spillTime 3 after " + i, floor.spillTime(3), three[i]);
            Check.due("spillTime 4 after " + i, floor.spillTime(4), four[i]);
            Check.due("spillTime 5 after " + i, floor.spillTime(5), five[i]);
            Check.due("spillTime 1 after " + i, floor.spillTime(1), one[i]);
            floor.advance(1);
        }
        MoonlitFloor rug = Check.floor("floor 2 3;night 0;rug 0 1;spill 0 4;spill 1 5");
        rug.advance(1);
        Check.due("an even spill under a rug", rug.spillTime(0), 2);
        Check.due("an odd spill under a rug", rug.spillTime(1), 3);
        rug.advance(1);
        Check.due("an even spill has dried", rug.spillTime(0), 0);
        Check.due("an odd spill", rug.spillTime(1), 1);
        rug.advance(1);
        Check.due("not less than 0", rug.spillTime(1), 0);
        Check.due("most", Check.floor("floor 2 2;drying 99;night 0;cat 0 stay;bowl 0;advance 1").spillTime(0), 98);
        Check.due("least", Check.floor("floor 2 2;drying 1;night 0;cat 0 stay;bowl 0;advance 1").spillTime(0), 0);
    }

    private static String rugsOf(MoonlitFloor floor) {
        StringBuilder rugs = new StringBuilder();
        for (int tile = 0; tile < floor.rows() * floor.columns(); tile++) {
            rugs.append(floor.hasRug(tile) ? 'r' : '.');
        }
        return rugs.toString();
    }

    private static void slides(String setup, String rugs, int count, int walker) {
        MoonlitFloor floor = Check.floor("floor 2 4;light 20;" + setup);
        Check.due("rugs after " + setup, rugsOf(floor), rugs);
        Check.due("slideCount after " + setup, floor.slideCount(), count);
        Check.due("walkerTile after " + setup, floor.walkerTile(), walker);
    }

    /** Promises 33 and 34. */
    private static void rugs() {
        slides("rug 1 6", ".r....r.", 0, 0);
        slides("rug 1;advance 1", "..r.....", 1, 1);
        slides("rug 1;advance 2", "...r....", 2, 2);
        slides("rug 1;advance 3", "...r....", 2, 3);
        slides("rug 1;pace 3;advance 1", "...r....", 2, 3);
        slides("rug 2;walker 3 left;advance 1", ".r......", 1, 2);
        slides("rug 1;walker 3 left;advance 3", "r.......", 1, 0);
        slides("rug 1;curtain 2;advance 1", "..r.....", 1, 1);
        slides("rug 1;cat 2;advance 1", "..r.....", 1, 1);
        slides("rug 2;walker 1 right;cat 3;advance 1", "...r....", 1, 2);
        // the rug slides to the last column of its row, not to the next row
        slides("rug 3;advance 3", "...r....", 0, 3);
        slides("rug 4;light 1;walker 1 left;advance 2", "....r...", 0, 0);
        // relocation moves no rug
        slides("rug 0;walker 0 right", "r.......", 0, 0);
        slides("rug 5;light 1;advance 1", ".....r..", 0, 5);
    }

    private static void rugsThatStay() {
        slides("rug 1 2;advance 1", ".rr.....", 0, 1);
        slides("rug 1 2;advance 2", ".r.r....", 1, 2);
        slides("rug 1;bowl 2;advance 1", ".r......", 0, 1);
        slides("rug 1;spill 2 50;advance 1", ".r......", 0, 1);
        // a bowl on the rug itself stays where it is
        MoonlitFloor floor = Check.floor("floor 2 4;light 20;rug 1;bowl 1;advance 1");
        Check.due("rugs", rugsOf(floor), "..r.....");
        Check.due("hasBowl", floor.hasBowl(1), true);
    }

    /** Promise 37. */
    private static void spillCount() {
        MoonlitFloor floor = Check.floor("floor 3 3;night 0;spill 0 1;spill 8 2;spill 4 9;spill 3 1;bowl 7");
        Check.due("spillCount", floor.spillCount(), 4);
        floor.advance(1);
        Check.due("spillCount", floor.spillCount(), 2);
        floor.mop(4);
        Check.due("spillCount", floor.spillCount(), 1);
        floor.advance(1);
        Check.due("spillCount", floor.spillCount(), 0);
    }

    private static void orderInTheMinute() {
        // the cat spills before the walker steps
        MoonlitFloor cat = Check.floor("floor 2 3;light 20;cat 1 stay;bowl 1;advance 1");
        Check.due("walkerTile", cat.walkerTile(), 0);
        Check.due("turnCount", cat.turnCount(), 1);
        // the walker steps before a spill dries
        MoonlitFloor wet = Check.floor("floor 2 3;light 20;spill 1 1;advance 1");
        Check.due("walkerTile", wet.walkerTile(), 0);
        // the walker steps before the new minute stirs the curtain
        MoonlitFloor curtain = Check.floor("floor 2 3;light 20;walker 1 right;draught 2 2;advance 1");
        Check.due("walkerTile", curtain.walkerTile(), 2);
        // a rug that slides on a dry tile dries nothing; one that leaves a tile dries it no more
        MoonlitFloor rug = Check.floor("floor 2 4;light 20;rug 1;advance 1;spill 2 9;advance 1");
        Check.due("spillTime under the rug", rug.spillTime(2), 7);
    }

    private static void wrongIndexes() {
        MoonlitFloor floor = Check.floor("floor 3 4;spill 11 3;bowl 10");
        for (int tile : new int[] {-1, 12, 79, 80, Integer.MIN_VALUE, Integer.MAX_VALUE}) {
            Check.noIndex("hasRug " + tile, () -> floor.hasRug(tile));
            Check.noIndex("hasBowl " + tile, () -> floor.hasBowl(tile));
            Check.noIndex("spillTime " + tile, () -> floor.spillTime(tile));
        }
        Check.due("spillTime of the last tile", floor.spillTime(11), 3);
        MoonlitFloor largest = Check.floor("floor 8 10;rug 79;cat 78 right stay;bowl 79");
        Check.due("hasRug 79", largest.hasRug(79), true);
        Check.due("hasBowl 79", largest.hasBowl(79), true);
        largest.advance(1);
        Check.due("hasBowl 79", largest.hasBowl(79), false);
        Check.due("spillTime 79", largest.spillTime(79), 8);
    }
}
