final class SmokeTest {
    public static void main(String[] args) {
        MoonlitFloor floor = Check.floor("floor 2 2");
        Check.due("walkerTile()", floor.walkerTile(), 0);
        Check.end();
    }
}
