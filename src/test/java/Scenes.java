/** Rooms in which there is something of all, or as much of one thing as there may be. */
final class Scenes {
    /** The STYLE of most of them: two WORDS of two letters make a LINE. */
    static final String PAIRS = "measure 20; space 2 6";

    private Scenes() {
    }

    /**
     * STORY 0 has PARTS 0 (two LINES) and 1 (one), 1 has 5 and 6 (in FACE 1), 2 has 10 (in the QUEUE of MACHINE 1,
     * not SET) and 11 (not GIVEN), 3 has 15; MACHINE 0 has a JOB of a CORRECTION of 15 and one of PART 1;
     * MACHINE 1 is BROKEN; SLUG 4 is PIED, 5 is in the POT, 0 is WRONG; NOW is 6, and there is a text on the TAPE.
     */
    static void night(CountedRoom x) {
        Checks.style(x, 0, PAIRS + "; pay 15; pay 30 if late; fat 3; close 0 at 2");
        Checks.style(x, 40, "measure 40; part 7");
        Checks.story(x, 0, 3, "ab cd ef gh / ij kl");
        Checks.story(x, 1, 600, "ab cd / ef gh");
        Checks.story(x, 0, 10, "abcd-ab cd ef / kl mn");
        Checks.story(x, 0, 5, "mn op qr st");
        x.machine(9, 4);
        x.machine(8, 0);
        x.give(0, 0);
        x.give(1, 0);
        x.give(5, 1);
        x.give(6, 1);
        x.give(15, 1);
        x.minutes(3);
        x.carry(0, 4, 2);
        x.image();
        x.minutes(3);
        x.lock(0, 8);
        x.edition();
        x.lock(1, 2);
        markAndCorrect(x);
        x.end(0);
        Checks.tell(x, "a-b c / d");
    }

    private static void markAndCorrect(CountedRoom x) {
        x.pie(4);
        x.slip(0, 1, 25);
        x.read(0, 0);
        x.read(1, 0);
        x.read(0, 2);
        x.read(1, 3);
        x.carry(0, 5, 2);
        x.carry(2, 7, 6);
        Checks.correct(x, 15, 1, 0, "xy");
        x.again(1, 0, 0);
        x.broken(1, true);
        x.give(10, 1);
        x.tear(2, 3, 5);
        x.page(3, 2, 30);
    }

    /** There are 20 STORIES. */
    static void stories(CountedRoom x) {
        Checks.style(x, 0, PAIRS);
        for (int i = 0; i < 20; i++) {
            Checks.story(x, i % 2, i, "ab cd");
        }
    }

    /** There are 10 STYLES, each from another minute on. */
    static void styles(CountedRoom x) {
        Checks.story(x, 0, 0, "ab cd ef gh");
        for (int i = 0; i < 10; i++) {
            Checks.style(x, 4 * i, "measure " + (20 + i));
        }
    }

    /** There are 4 MACHINES. */
    static void machines(CountedRoom x) {
        for (int i = 0; i < 4; i++) {
            x.machine(10 * i, i);
        }
    }

    /**
     * MACHINE 0 has 30 JOBS, all of PLACE 1 of PART 0; MACHINE 1 has none. PART 0 is SET, and a SLUG lies at its
     * PLACE 0; PART 5 is SET, and both its PLACES are empty; PART 10 is not SET, nor GIVEN.
     */
    static void jobs(CountedRoom x) {
        Checks.style(x, 0, PAIRS);
        Checks.story(x, 0, 0, "ab cd ef gh");
        Checks.story(x, 0, 0, "ij kl mn op");
        Checks.story(x, 0, 0, "qr st");
        x.machine(9, 0);
        x.machine(9, 0);
        x.give(0, 0);
        x.give(5, 0);
        x.minutes(4);
        x.pie(1);
        x.pie(2);
        x.pie(3);
        for (int i = 0; i < 30; i++) {
            x.again(0, 1, 0);
        }
    }

    /** 200 tellings of the only SLUG, which was cast in minute 2, and NOW is 4. */
    static void tellings(CountedRoom x) {
        Checks.story(x, 0, 0, "ab cd");
        x.machine(9, 0);
        x.minutes(1);
        x.give(0, 0);
        x.minutes(3);
        for (int i = 0; i < 200; i++) {
            x.carry(0, 3, 2);
        }
    }

    /** 8 EDITIONS. */
    static void editions(CountedRoom x) {
        Checks.story(x, 0, 0, "ab cd");
        x.machine(9, 0);
        x.give(0, 0);
        x.minutes(1);
        for (int i = 0; i < 8; i++) {
            x.edition();
            x.lock(i % 6, 1);
        }
    }

    /** 300 SLUGS, of 15 PARTS of 24 LINES; MACHINES 0 to 2 have JOBS still. */
    static void slugs(CountedRoom x) {
        for (int sign = 0; sign < 2; sign++) {
            x.width(0, sign, 5);
        }
        Checks.style(x, 0, "measure 10; space 1 40");
        String part = Checks.many("aa", 24, " ");
        for (int i = 0; i < 3; i++) {
            Checks.story(x, 0, 0, Checks.many(part, 5, "/"));
            x.machine(40, 0);
            for (int k = 0; k < 5; k++) {
                x.give(5 * i + k, i);
            }
        }
        x.minutes(100);
    }

    /** NOW is 600. */
    static void lastMinute(CountedRoom x) {
        Checks.style(x, 0, PAIRS);
        Checks.story(x, 0, 0, "ab cd ef gh");
        x.machine(9, 0);
        for (int i = 0; i < 5; i++) {
            x.minutes(120);
        }
        x.give(0, 0);
    }

    /** A Scene with another text on its TAPE. */
    static Scene told(Scene scene, String text) {
        return x -> {
            scene.play(x);
            x.end(0);
            Checks.tell(x, text);
        };
    }

    /** So many bytes of one long text. */
    static String textOf(int bytes) {
        return Checks.many("ab", 134, " ").substring(0, bytes);
    }
}
