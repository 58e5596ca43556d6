import java.util.List;

/** What all tests use: compares answers, and tells texts to a room. */
final class Checks {
    interface Call {
        long answer();
    }

    interface Act {
        void run();
    }

    static final int NONE = LeadRoom.NONE;
    static final Class<IndexOutOfBoundsException> INDEX = IndexOutOfBoundsException.class;
    static final Class<IllegalArgumentException> ARGUMENT = IllegalArgumentException.class;
    static final Class<IllegalStateException> STATE = IllegalStateException.class;
    static final Class<UnsupportedOperationException> UNSUPPORTED = UnsupportedOperationException.class;
    static final Class<java.util.NoSuchElementException> NO_ELEMENT = java.util.NoSuchElementException.class;

    static final java.util.Set<Class<? extends RuntimeException>> KINDS =
        java.util.Set.of(INDEX, ARGUMENT, STATE, UNSUPPORTED, NO_ELEMENT);

    private static int passed = 0;
    private static int failed = 0;

    private Checks() {
    }

    static void same(String what, long want, long got) {
        if (want == got) {
            passed++;
        } else {
            failed++;
            System.out.println("WRONG " + what + ": answered " + got + ", due is " + want);
        }
    }

    static void same(String what, boolean want, boolean got) {
        same(what, want ? 1 : 0, got ? 1 : 0);
    }

    static void same(String what, String want, String got) {
        if (want.equals(got)) {
            passed++;
        } else {
            failed++;
            System.out.println("WRONG " + what + ": answered '" + got + "', due is '" + want + "'");
        }
    }

    /** The call throws an exception of just this class, and its own code threw it. */
    static void refuses(String what, Class<? extends RuntimeException> kind, Act act) {
        try {
            act.run();
        } catch (RuntimeException e) {
            if (e.getClass() == kind && isThrownByHand(e)) {
                passed++;
                return;
            }
            failed++;
            System.out.println("WRONG " + what + ": threw " + e + ", due is " + kind.getSimpleName());
            return;
        }
        failed++;
        System.out.println("WRONG " + what + ": threw nothing, due is " + kind.getSimpleName());
    }

    /** What the machine throws is of another class, and what the library throws begins there. */
    static boolean isThrownByHand(RuntimeException e) {
        StackTraceElement[] trace = e.getStackTrace();
        return trace.length > 0 && trace[0].getClassName().startsWith("LeadRoom");
    }

    static void tell(CountedRoom room, String text) {
        tell(room, text.getBytes(java.nio.charset.StandardCharsets.ISO_8859_1));
    }

    static void tell(CountedRoom room, byte[] text) {
        tell(room, text, 0);
    }

    /** Puts a text on the TAPE, which has to be empty; what is cut off behind it is this byte. */
    static void tell(CountedRoom room, byte[] text, int behind) {
        for (int i = 0; i < text.length; i += 20) {
            int[] words = new int[5];
            for (int k = 0; k < 20; k++) {
                words[k / 4] = words[k / 4] << 8 | (i + k < text.length ? text[i + k] : behind) & 255;
            }
            room.feed(words[0], words[1], words[2], words[3], words[4]);
        }
        room.end(text.length);
    }

    static int story(CountedRoom room, int face, int due, String text) {
        tell(room, text);
        return room.story(face, due);
    }

    static int style(CountedRoom room, int minute, String text) {
        tell(room, text);
        return room.style(minute);
    }

    static int correct(CountedRoom room, int part, int word, int machine, String text) {
        tell(room, text);
        return room.correct(part, word, machine);
    }

    static String said(CountedRoom room, int slug) {
        StringBuilder text = new StringBuilder();
        for (int i = 0; room.says(slug, i) != NONE; i++) {
            text.append((char) room.says(slug, i));
        }
        return text.toString();
    }

    /** The last PIECES of all LINES, as ends tells them. */
    static String ends(CountedRoom room, int part) {
        StringBuilder text = new StringBuilder();
        for (int i = 0; room.ends(part, i) != NONE; i++) {
            text.append(i == 0 ? "" : " ").append(room.ends(part, i));
        }
        return text.toString();
    }

    static String many(String piece, int n, String between) {
        StringBuilder text = new StringBuilder();
        for (int i = 0; i < n; i++) {
            text.append(i == 0 ? "" : between).append(piece);
        }
        return text.toString();
    }

    static void finish(String test) {
        System.out.println(test + ": " + passed + " answers right, " + failed + " wrong");
        if (failed > 0 || passed == 0) {
            System.exit(1);
        }
    }

    static List<String> lines(String file) {
        try {
            return java.nio.file.Files.readAllLines(java.nio.file.Path.of(file));
        } catch (java.io.IOException e) {
            throw new IllegalStateException(e);
        }
    }
}
