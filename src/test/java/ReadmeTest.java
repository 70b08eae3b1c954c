import java.io.File;
import java.io.IOException;
import java.lang.reflect.Method;
import java.lang.reflect.Modifier;
import java.nio.file.Files;
import java.nio.file.Path;
import java.util.ArrayList;
import java.util.List;
import java.util.regex.Matcher;
import java.util.regex.Pattern;

/** The example of README.md stands in this file line by line, and answers what README.md says behind "//". */
final class ReadmeTest {
    private static final Path README = Path.of("README.md");
    private static final Path SELF = Path.of("src/test/java/ReadmeTest.java");
    private static final List<String> PRINTED = new ArrayList<>();

    private ReadmeTest() {
    }

    public static void main(String[] args) throws IOException {
        String readme = Files.readString(README);
        String block = between(readme, "```java\n", "```\n");
        String own = between(Files.readString(SELF), "    // ---- README\n\n", "    // ---- end\n");
        Check.due("the example", own.replaceAll("(?m)^ {4}", "").strip(), block.strip());
        example();
        Check.due("what the example prints", PRINTED, promised(block));
        for (Method method : MoonlitFloor.class.getDeclaredMethods()) {
            if (Modifier.isPublic(method.getModifiers())) {
                Check.due("README names " + method.getName(), readme.contains("`" + method.getName()), true);
            }
        }
        for (File test : SELF.getParent().toFile().listFiles((place, name) -> name.endsWith("Test.java"))) {
            String name = test.getName().replace(".java", "");
            Check.due("README names " + name, readme.contains("| `" + name + "` |"), true);
        }
        defaults();
        Check.end();
    }

    private static String between(String text, String before, String after) {
        int start = text.indexOf(before) + before.length();
        return text.substring(start, text.indexOf(after, start));
    }

    /** The words behind "//" up to a colon that a space follows. */
    private static List<String> promised(String block) {
        List<String> answers = new ArrayList<>();
        Matcher line = Pattern.compile("print\\(.* // (.*)").matcher(block);
        while (line.find()) {
            answers.add(line.group(1).replaceAll(": .*", ""));
        }
        return answers;
    }

    private static void print(Object answer) {
        PRINTED.add(String.valueOf(answer));
    }

    /** What the table of settings says of a setup without them is what a setup with them brings. */
    private static void defaults() {
        String settings = "light 5;pace 1;drying 10;rest 0;stamina 0;noise 0;night 15;walker 0 right";
        String events = ";bowl row 1;spill 1 20;advance 6";
        MoonlitFloor plain = floorOf("floor 3 3" + events);
        MoonlitFloor told = floorOf("floor 3 3;" + settings + events);
        States.same("a setup without settings", States.of(plain), States.of(told));
    }

    // ---- README

    static MoonlitFloor floorOf(String setup) {
        MoonlitFloor floor = new MoonlitFloor();
        int[] words = new int[(setup.length() + 19) / 20 * 5];
        for (int i = 0; i < setup.length(); i++) {
            words[i / 4] |= setup.charAt(i) << 24 - i % 4 * 8;
        }
        for (int i = 0; i < words.length; i += 5) {
            floor.append(words[i], words[i + 1], words[i + 2], words[i + 3], words[i + 4]);
        }
        floor.parseSetup(setup.length());
        return floor;
    }

    static void example() {
        MoonlitFloor floor = floorOf("floor 2 4;light 3;pace 2;drying 4;cat 7 left;bowl 6");
        print(floor.walkerTile());       // 0: column 0 of the row on which the moon shines
        print(floor.advance(1));         // 2: steps; and the cat has spilled the bowl
        print(row(floor, 0));            // **W*
        print(row(floor, 1));            // ..C.
        print(floor.spillTime(6));       // 3: minutes until it has dried
        print(floor.advance(2));         // 3: one of the four tries was the turn at the edge
        print(row(floor, 1));            // CW~*: the moon shines on row 1 now
        print(floor.stepsAfter(3));      // 9: foretold, nothing has changed
        print(floor.advance(3));         // 4: the night is over
        print(records(floor));           // 15:9
        print(floor.undo());             // 2: changes that can still be undone
        print(floor.minute());           // 3: as before the last advance
    }

    static String row(MoonlitFloor floor, int row) {
        return output(floor, floor.writeRow(row));
    }

    static String records(MoonlitFloor floor) {
        return output(floor, floor.writeRecords());
    }

    static String output(MoonlitFloor floor, int length) {
        StringBuilder text = new StringBuilder();
        for (int i = 0; i < length; i++) {
            text.append((char) floor.outputByte(i));
        }
        return text.toString();
    }

    // ---- end
}
