/** All that can be asked about a simulation, as texts that can be compared. */
final class States {
    private States() {
    }

    static String[] of(MoonlitFloor floor) {
        StringBuilder tiles = new StringBuilder();
        for (int tile = 0; tile < floor.rows() * floor.columns(); tile++) {
            tiles.append(floor.wear(tile)).append(' ').append(floor.spillTime(tile)).append(' ');
            tiles.append(floor.hasRug(tile)).append(floor.hasBowl(tile)).append(floor.isLit(tile)).append(' ');
        }
        StringBuilder columns = new StringBuilder();
        for (int column = 0; column < floor.columns(); column++) {
            columns.append(floor.isCurtainClosed(column)).append(floor.draughtPeriod(column)).append(' ');
        }
        StringBuilder records = new StringBuilder();
        for (int rank = 0; rank < floor.recordCount(); rank++) {
            records.append(floor.recordNight(rank)).append(':').append(floor.recordSteps(rank)).append(' ');
        }
        return new String[] {tiles.toString(), columns.toString(), records.toString(),
            "size " + floor.rows() + " " + floor.columns() + " " + floor.minutesPerRow(),
            "time " + floor.night() + " " + floor.minute(), "pace " + floor.pace(), "walker " + floor.walkerTile(),
            "right " + floor.facesRight(), "rest " + floor.restRemaining(), "since pause " + floor.stepsSincePause(),
            "steps " + floor.totalSteps(), "tonight " + floor.stepsTonight(), "turns " + floor.turnCount(),
            "falls " + floor.fallCount(), "cat " + floor.catTile(), "slides " + floor.slideCount()};
    }

    static void same(String what, String[] got, String[] due) {
        for (int i = 0; i < due.length; i++) {
            Check.due(what, got[i], due[i]);
        }
    }
}
