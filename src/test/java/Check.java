/** Counts and prints the answers that are not due, and makes floors from texts. */
final class Check {
    interface Call {
        Object answer();
    }

    interface IndexCall {
        Object answer(int index);
    }

    private static int wrong = 0;
    private static int made = 0;

    private Check() {
    }

    static void due(String what, Object got, Object want) {
        made++;
        if (!want.equals(got)) {
            wrong++;
            System.out.println(what + " answered " + got + ", due is " + want + Sentence.now());
        }
    }

    /** The exception must be of exactly this class: one of a class below it comes from the machine. */
    static void dueThrow(String what, Class<? extends RuntimeException> want, Call call) {
        made++;
        Object got;
        try {
            got = call.answer();
        } catch (RuntimeException e) {
            got = e.getClass();
        }
        if (got != want) {
            wrong++;
            System.out.println(what + " answered " + got + ", due is " + want + Sentence.now());
        }
    }

    static void noSetup(String what, Call call) {
        dueThrow(what, IllegalStateException.class, call);
    }

    static void noIndex(String what, Call call) {
        dueThrow(what, IndexOutOfBoundsException.class, call);
    }

    static void noArgument(String what, Call call) {
        dueThrow(what, IllegalArgumentException.class, call);
    }

    /** Appends a text, filled up with spaces to a multiple of twenty bytes. */
    static void fill(MoonlitFloor floor, String text) {
        int[] words = new int[(text.length() + 19) / 20 * 5];
        for (int i = 0; i < words.length * 4; i++) {
            int b = i < text.length() ? text.charAt(i) & 255 : ' ';
            words[i / 4] = words[i / 4] << 8 | b;
        }
        for (int i = 0; i < words.length; i += 5) {
            floor.append(words[i], words[i + 1], words[i + 2], words[i + 3], words[i + 4]);
        }
    }

    static MoonlitFloor floor(String setup) {
        MoonlitFloor floor = new MoonlitFloor();
        fill(floor, setup);
        floor.parseSetup(setup.length());
        return floor;
    }

    /** The setup must have this error at this byte. */
    static void error(String setup, int code, int position) {
        MoonlitFloor floor = new MoonlitFloor();
        fill(floor, setup);
        noArgument(setup, () -> floor.parseSetup(setup.length()));
        due("code of " + setup, floor.parseErrorCode(), code);
        due("position of " + setup, floor.parseErrorPosition(), position);
    }

    /** The setup must have this error at the first byte of its last token, which follows a space or a bracket. */
    static void errorAtLast(String setup, int code) {
        int last = Math.max(setup.lastIndexOf(' '), Math.max(setup.lastIndexOf('('), setup.lastIndexOf(';')));
        error(setup, code, last + 1);
    }

    static void valid(String setup) {
        MoonlitFloor floor = new MoonlitFloor();
        fill(floor, setup);
        try {
            floor.parseSetup(setup.length());
        } catch (IllegalArgumentException e) {
            due(setup, floor.parseErrorCode() + " at " + floor.parseErrorPosition(), "no error");
        }
        due("code of " + setup, floor.parseErrorCode(), 0);
    }

    /** A number that stands between two texts must be from low to high. */
    static void range(String before, int low, int high, String after) {
        valid(before + low + after);
        valid(before + high + after);
        if (low > 0) {
            error(before + (low - 1) + after, MoonlitFloor.RANGE_ERROR, before.length());
        }
        if (high < 999) {
            error(before + (high + 1) + after, MoonlitFloor.RANGE_ERROR, before.length());
        }
    }

    /** The indexes 0 to count - 1 are taken, and all others are refused. */
    static void indexes(String what, int count, IndexCall call) {
        for (int index : new int[] {-1, count, Integer.MIN_VALUE, Integer.MAX_VALUE}) {
            noIndex(what + " " + index, () -> call.answer(index));
        }
        taken(what + " 0", () -> call.answer(0));
        taken(what + " " + (count - 1), () -> call.answer(count - 1));
    }

    /** The numbers low to high are taken, and all others are refused. */
    static void numbers(String what, int low, int high, IndexCall call) {
        for (int number : new int[] {low - 1, Integer.MIN_VALUE, Integer.MAX_VALUE}) {
            if (number < low || number > high) {
                noArgument(what + " " + number, () -> call.answer(number));
            }
        }
        if (high < Integer.MAX_VALUE) {
            noArgument(what + " " + (high + 1), () -> call.answer(high + 1));
        }
        taken(what + " " + low, () -> call.answer(low));
        taken(what + " " + high, () -> call.answer(high));
    }

    static void taken(String what, Call call) {
        Object got;
        try {
            got = call.answer() == null ? "nothing" : "an answer";
        } catch (RuntimeException e) {
            got = e.getClass();
        }
        due(what, got, "an answer");
    }

    static String output(MoonlitFloor floor, int length) {
        StringBuilder text = new StringBuilder();
        for (int i = 0; i < length; i++) {
            text.append((char) floor.outputByte(i));
        }
        return text.toString();
    }

    static String row(MoonlitFloor floor, int row) {
        return output(floor, floor.writeRow(row));
    }

    static String records(MoonlitFloor floor) {
        return output(floor, floor.writeRecords());
    }

    static void end() {
        System.out.println(made + " answers looked at, " + wrong + " not due");
        if (wrong > 0) {
            System.exit(1);
        }
    }
}
