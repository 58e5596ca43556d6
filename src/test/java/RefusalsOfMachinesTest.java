/**
 * Promises 13 to 27: each call that is refused, by the last number on each side that is; what it throws or answers,
 * which of several exceptions it is, and that nothing is changed but what the document says.
 */
public final class RefusalsOfMachinesTest extends Edges {
    private static final int LEAST = Integer.MIN_VALUE;
    private static final int MOST = Integer.MAX_VALUE;
    private static final int[] NO_PARTS = RefusalsOfCopyTest.NO_PARTS;
    private static final int[] NO_MACHINES = {-1, 2, 3, LEAST, MOST};
    private static final int[] NO_SLUGS = {-1, 7, 300, LEAST, MOST};

    private static final Scene NIGHT = Scenes::night;
    private static final Scene FOUR = Scenes::machines;
    private static final Scene THIRTY = Scenes::jobs;

    public static void main(String[] args) {
        machine();
        brass();
        broken();
        give();
        giveThirty();
        minutes();
        runs();
        slug();
        says();
        lies();
        judge();
        pie();
        change();
        again();
        againThirty();
        correctNumbers();
        correctTexts();
        correctStates();
        correctWithoutBest();
        slip();
        Checks.finish("RefusalsOfMachinesTest");
    }

    private static void machine() {
        for (int n : new int[] {-1, 41, LEAST, MOST}) {
            refused("P13 machine: " + n + " BRASSES", ARGUMENT, NIGHT, x -> x.machine(n, 0));
            refused("P13 machine: a fifth with " + n + " BRASSES", ARGUMENT, FOUR, x -> x.machine(n, 0));
        }
        for (int back : new int[] {-1, 10, LEAST, MOST}) {
            refused("P13 machine: BACK " + back, ARGUMENT, NIGHT, x -> x.machine(9, back));
            refused("P13 machine: a fifth with BACK " + back, ARGUMENT, FOUR, x -> x.machine(9, back));
        }
        refused("P13 machine: a fifth", UNSUPPORTED, FOUR, x -> x.machine(9, 0));
    }

    private static void brass() {
        for (int machine : NO_MACHINES) {
            refused("P14 brass: MACHINE " + machine, INDEX, NIGHT, x -> x.brass(machine, 0, 9));
            refused("P14 brass: MACHINE " + machine + " and 41", INDEX, NIGHT, x -> x.brass(machine, 0, 41));
        }
        for (int sign : new int[] {-1, 27, LEAST, MOST}) {
            refused("P14 brass: SIGN " + sign, INDEX, NIGHT, x -> x.brass(1, sign, 9));
            refused("P14 brass: SIGN " + sign + " and -1", INDEX, NIGHT, x -> x.brass(1, sign, -1));
        }
        for (int n : new int[] {-1, 41, LEAST, MOST}) {
            refused("P14 brass: " + n, ARGUMENT, NIGHT, x -> x.brass(0, 0, n));
            refused("P14 brass: " + n + " of -", ARGUMENT, NIGHT, x -> x.brass(0, 26, n));
        }
    }

    private static void broken() {
        for (int machine : NO_MACHINES) {
            refused("P15 broken: MACHINE " + machine, INDEX, NIGHT, x -> x.broken(machine, true));
            refused("P15 broken: MACHINE " + machine + " is not", INDEX, NIGHT, x -> x.broken(machine, false));
        }
        answersAlone("P15 broken: it is", 0, NIGHT, x -> bit(x.broken(1, true)));
        answersAlone("P15 broken: it is not", 0, NIGHT, x -> bit(x.broken(0, false)));
    }

    private static void give() {
        for (int part : NO_PARTS) {
            refused("P16 give: PART " + part, INDEX, NIGHT, x -> x.give(part, 0));
            refused("P16 give: PART " + part + " to no MACHINE", INDEX, NIGHT, x -> x.give(part, 2));
        }
        for (int machine : NO_MACHINES) {
            refused("P16 give: to MACHINE " + machine, INDEX, NIGHT, x -> x.give(11, machine));
            refused("P16 give: what was GIVEN to MACHINE " + machine, INDEX, NIGHT, x -> x.give(0, machine));
        }
        for (int part : new int[] {0, 1, 5, 6, 10, 15}) {
            answersAlone("P16 give: PART " + part + " was GIVEN, to 0", NONE, NIGHT, x -> x.give(part, 0));
            answersAlone("P16 give: PART " + part + " was GIVEN, to 1", NONE, NIGHT, x -> x.give(part, 1));
        }
    }

    private static void giveThirty() {
        refused("P16 give: a 31st JOB", UNSUPPORTED, THIRTY, x -> x.give(10, 0));
        refused("P16 give: no PART, 30 JOBS", INDEX, THIRTY, x -> x.give(11, 0));
        refused("P16 give: PART -1, 30 JOBS", INDEX, THIRTY, x -> x.give(-1, 0));
    }

    private static void minutes() {
        for (int n : new int[] {-1, 121, LEAST, MOST}) {
            refused("P17 minutes: " + n, ARGUMENT, NIGHT, x -> x.minutes(n));
        }
        answersAlone("P17 minutes: none", 6, NIGHT, x -> x.minutes(0));
        Scene last = Scenes::lastMinute;
        answersAlone("P17 minutes: one behind 600", 600, last, x -> x.minutes(1));
        answersAlone("P17 minutes: 120 behind 600", 600, last, x -> x.minutes(120));
        refused("P17 minutes: 121 behind 600", ARGUMENT, last, x -> x.minutes(121));
    }

    private static void runs() {
        for (int machine : NO_MACHINES) {
            refused("P18 runs: MACHINE " + machine, INDEX, NIGHT, x -> x.runs(machine, 0));
        }
        for (int what : new int[] {-1, 6, LEAST, MOST}) {
            refused("P18 runs: what " + what, NO_ELEMENT, NIGHT, x -> x.runs(0, what));
            refused("P18 runs: what " + what + " of no MACHINE", INDEX, NIGHT, x -> x.runs(2, what));
        }
        int[] due = {2, 3, 0, 0, 0, 15};
        for (int what = 0; what < 6; what++) {
            int w = what;
            answersAlone("P18 runs: what " + w, due[w], NIGHT, x -> x.runs(0, w));
        }
    }

    private static void slug() {
        for (int slug : NO_SLUGS) {
            refused("P19 slug: SLUG " + slug, INDEX, NIGHT, x -> x.slug(slug, 0));
        }
        refused("P19 slug: SLUG 0 of a new room", INDEX, x -> x.end(0), x -> x.slug(0, 0));
        for (int what : new int[] {-1, 10, LEAST, MOST}) {
            refused("P19 slug: what " + what, NO_ELEMENT, NIGHT, x -> x.slug(0, what));
            refused("P19 slug: what " + what + " of no SLUG", INDEX, NIGHT, x -> x.slug(7, what));
        }
        int[] due = {15, 1, 3, 4, 2, NONE, NONE, 0, 0, 0};
        for (int what = 0; what < 10; what++) {
            int w = what;
            answersAlone("P19 slug: what " + w, due[w], NIGHT, x -> x.slug(5, w));
        }
    }

    private static void says() {
        for (int slug : NO_SLUGS) {
            refused("P20 says: SLUG " + slug, INDEX, NIGHT, x -> x.says(slug, 0));
        }
        for (int i : new int[] {-1, 5, 6, LEAST, MOST}) {
            answersAlone("P20 says: byte " + i + " of five", NONE, NIGHT, x -> x.says(6, i));
            refused("P20 says: byte " + i + " of no SLUG", INDEX, NIGHT, x -> x.says(7, i));
        }
        answersAlone("P20 says: byte 0 of five", 'q', NIGHT, x -> x.says(6, 0));
        answersAlone("P20 says: byte 4 of five", 't', NIGHT, x -> x.says(6, 4));
    }

    private static void lies() {
        for (int part : NO_PARTS) {
            refused("P21 lies: PART " + part, INDEX, NIGHT, x -> x.lies(part, 0));
        }
        refused("P21 lies: GIVEN and not SET", STATE, NIGHT, x -> x.lies(10, 0));
        refused("P21 lies: not GIVEN, so not SET", STATE, NIGHT, x -> x.lies(11, 0));
        for (int place : new int[] {-1, 1, 40, LEAST, MOST}) {
            refused("P21 lies: PLACE " + place + ", not SET", STATE, NIGHT, x -> x.lies(10, place));
        }
        for (int place : new int[] {-1, 2, 40, LEAST, MOST}) {
            refused("P21 lies: PLACE " + place + " of two", INDEX, NIGHT, x -> x.lies(0, place));
        }
        answersAlone("P21 lies: PLACE 1 of two", 2, NIGHT, x -> x.lies(0, 1));
        answersAlone("P21 lies: nothing at PLACE 0", NONE, NIGHT, x -> x.lies(1, 0));
    }

    private static void judge() {
        for (int part : NO_PARTS) {
            refused("P22 judge: PART " + part, INDEX, NIGHT, x -> x.judge(part));
        }
        refused("P22 judge: GIVEN and not SET", STATE, NIGHT, x -> x.judge(10));
        refused("P22 judge: not GIVEN, so not SET", STATE, NIGHT, x -> x.judge(11));
        answersAlone("P22 judge: a WRONG one at PLACE 0", 0, NIGHT, x -> x.judge(0));
        answersAlone("P22 judge: nothing at PLACE 0", 0, NIGHT, x -> x.judge(1));
        answersAlone("P22 judge: all are RIGHT", NONE, NIGHT, x -> x.judge(5));
    }

    private static void pie() {
        for (int slug : NO_SLUGS) {
            refused("P23 pie: SLUG " + slug, INDEX, NIGHT, x -> x.pie(slug));
        }
        answersAlone("P23 pie: it is PIED", 0, NIGHT, x -> bit(x.pie(4)));
        answersAlone("P23 pie: it is in the POT", 0, NIGHT, x -> bit(x.pie(5)));
    }

    private static void change() {
        for (int slug : NO_SLUGS) {
            refused("P24 change: SLUG " + slug + " with another one", INDEX, NIGHT, x -> x.change(slug, 0));
            refused("P24 change: another one with SLUG " + slug, INDEX, NIGHT, x -> x.change(0, slug));
            refused("P24 change: SLUG " + slug + " with itself", INDEX, NIGHT, x -> x.change(slug, slug));
            refused("P24 change: SLUG " + slug + " with a PIED one", INDEX, NIGHT, x -> x.change(slug, 4));
        }
        for (int slug : new int[] {4, 5}) {
            answersAlone("P24 change: one that lies nowhere, " + slug, 0, NIGHT, x -> bit(x.change(slug, 0)));
            answersAlone("P24 change: with one that lies nowhere, " + slug, 0, NIGHT, x -> bit(x.change(0, slug)));
            answersAlone("P24 change: itself, which lies nowhere, " + slug, 0, NIGHT, x -> bit(x.change(slug, slug)));
        }
        answersAlone("P24 change: a PIED one with one in the POT", 0, NIGHT, x -> bit(x.change(4, 5)));
        answersAlone("P24 change: one that lies with itself", 1, NIGHT, x -> bit(x.change(6, 6)));
    }

    private static void again() {
        for (int part : NO_PARTS) {
            refused("P25 again: PART " + part, INDEX, NIGHT, x -> x.again(part, 0, 0));
        }
        for (int machine : NO_MACHINES) {
            refused("P25 again: MACHINE " + machine, INDEX, NIGHT, x -> x.again(1, 0, machine));
            refused("P25 again: MACHINE " + machine + ", not SET", INDEX, NIGHT, x -> x.again(10, 0, machine));
            refused("P25 again: MACHINE " + machine + ", a SLUG lies there", INDEX, NIGHT, x -> x.again(0, 0, machine));
        }
        for (int place : new int[] {-1, 1, 40, LEAST, MOST}) {
            refused("P25 again: PLACE " + place + " of one", INDEX, NIGHT, x -> x.again(1, place, 0));
        }
        refused("P25 again: GIVEN and not SET", STATE, NIGHT, x -> x.again(10, 0, 0));
        refused("P25 again: not GIVEN, so not SET", STATE, NIGHT, x -> x.again(11, 0, 0));
        for (int place : new int[] {-1, 1, 40, LEAST, MOST}) {
            refused("P25 again: PLACE " + place + ", not SET", STATE, NIGHT, x -> x.again(11, place, 0));
        }
        answersAlone("P25 again: a SLUG lies there", NONE, NIGHT, x -> x.again(0, 1, 0));
        answersAlone("P25 again: a WRONG SLUG lies there", NONE, NIGHT, x -> x.again(0, 0, 0));
        answersAlone("P25 again: a SLUG lies there, a BROKEN MACHINE", NONE, NIGHT, x -> x.again(15, 1, 1));
    }

    private static void againThirty() {
        refused("P25 again: a 31st JOB, of the PART that has the others", UNSUPPORTED, THIRTY, x -> x.again(0, 1, 0));
        refused("P25 again: a 31st JOB, of another PART", UNSUPPORTED, THIRTY, x -> x.again(5, 0, 0));
        refused("P25 again: PLACE 2 of two, 30 JOBS", INDEX, THIRTY, x -> x.again(5, 2, 0));
        refused("P25 again: PLACE -1, 30 JOBS", INDEX, THIRTY, x -> x.again(5, -1, 0));
        refused("P25 again: no PART, 30 JOBS", INDEX, THIRTY, x -> x.again(6, 0, 0));
        refused("P25 again: not SET, 30 JOBS", STATE, THIRTY, x -> x.again(10, 0, 0));
    }

    private static void correctNumbers() {
        Scene told = Scenes.told(NIGHT, "xyz");
        Scene wrong = Scenes.told(NIGHT, "x/");
        for (int part : NO_PARTS) {
            refusedUnread("P26 correct: PART " + part, INDEX, told, x -> x.correct(part, 0, 0));
        }
        for (int word : new int[] {-1, 2, 24, LEAST, MOST}) {
            refusedUnread("P26 correct: WORD " + word + " of two", INDEX, told, x -> x.correct(5, word, 0));
            refusedUnread("P26 correct: WORD " + word + " of two, not SET", INDEX, told, x -> x.correct(11, word, 0));
            refusedUnread("P26 correct: WORD " + word + " and a wrong text", INDEX, wrong, x -> x.correct(5, word, 0));
        }
        for (int machine : NO_MACHINES) {
            refusedUnread("P26 correct: MACHINE " + machine, INDEX, told, x -> x.correct(5, 0, machine));
            refusedUnread("P26 correct: MACHINE " + machine + ", not SET", INDEX, told, x -> x.correct(11, 0, machine));
            refusedUnread("P26 correct: MACHINE " + machine + " and a JOB", INDEX, told, x -> x.correct(15, 0, machine));
            refusedUnread("P26 correct: MACHINE " + machine + " and a wrong text", INDEX, wrong,
                x -> x.correct(15, 0, machine));
        }
        refusedUnread("P26 correct: PART -1 and a wrong text", INDEX, wrong, x -> x.correct(-1, 0, 0));
        Scene thirty = Scenes.told(THIRTY, "xyz");
        refusedUnread("P26 correct: WORD 4 of four, 30 JOBS", INDEX, thirty, x -> x.correct(5, 4, 0));
        refusedUnread("P26 correct: PART 1, 30 JOBS", INDEX, thirty, x -> x.correct(1, 0, 0));
    }

    private static void correctTexts() {
        String[] texts = {"", "   ", "ab cd", "ab/", "ab-", "-ab", "ab--cd", "abcdefghijklm", "Ab", "ab\n"};
        int[] faults = {0, 3, 3, 2, 3, 0, 3, 12, 0, 2};
        for (int i = 0; i < texts.length; i++) {
            String of = "P26 correct: '" + texts[i] + "'";
            refusedText(of, ARGUMENT, faults[i], NIGHT, texts[i], x -> x.correct(5, 0, 0));
            refusedText(of + ", not SET", ARGUMENT, faults[i], NIGHT, texts[i], x -> x.correct(10, 0, 0));
            refusedText(of + ", and a JOB of it", ARGUMENT, faults[i], NIGHT, texts[i], x -> x.correct(15, 0, 0));
            refusedText(of + ", and 30 JOBS", ARGUMENT, faults[i], THIRTY, texts[i], x -> x.correct(5, 0, 0));
        }
        Scene forty = x -> {
            Checks.style(x, 0, Scenes.PAIRS);
            Checks.story(x, 0, 0, Checks.many("a-b", 20, " "));
            x.machine(9, 0);
        };
        refusedText("P26 correct: 41 BITS", ARGUMENT, 5, forty, " a-b-c ", x -> x.correct(0, 0, 0));
        refusedText("P26 correct: 41 BITS, by the last WORD", ARGUMENT, 8, forty, "aaa-bbb-c", x -> x.correct(0, 19, 0));
    }

    private static void correctStates() {
        refusedText("P26 correct: a JOB of it in the QUEUE", STATE, NONE, NIGHT, "xyz", x -> x.correct(15, 0, 0));
        refusedText("P26 correct: a JOB of it in another QUEUE", STATE, NONE, NIGHT, "xyz", x -> x.correct(1, 0, 1));
        refusedText("P26 correct: a JOB of it, and 30 JOBS", STATE, NONE, THIRTY, "xyz", x -> x.correct(0, 0, 0));
        refusedText("P26 correct: 30 JOBS", UNSUPPORTED, NONE, THIRTY, "xy", x -> x.correct(5, 0, 0));
        refusedText("P26 correct: 30 JOBS, and it is not SET", UNSUPPORTED, NONE, THIRTY, "xy", x -> x.correct(10, 0, 0));
        refusedText("P26 correct: 30 JOBS, and it is the same WORD", UNSUPPORTED, NONE, THIRTY, "ij",
            x -> x.correct(5, 0, 0));
        refusedText("P26 correct: 30 JOBS, and there is no BEST", UNSUPPORTED, NONE, THIRTY, "abcdef",
            x -> x.correct(5, 0, 0));
    }

    private static void correctWithoutBest() {
        for (int word = 0; word < 2; word++) {
            int w = word;
            Scene told = Scenes.told(NIGHT, "abcdef");
            answersAs("P26 correct: without BEST, WORD " + w, NONE, told, x -> x.correct(6, w, 0), x -> {
                x.end(0);
                sameFault(x);
            });
        }
    }

    /** The text was right, so that fault() is NONE as it is in the other room. */
    private static void sameFault(CountedRoom x) {
        same("P7 fault: of a right text", NONE, x.fault());
    }

    private static void slip() {
        for (int slug : NO_SLUGS) {
            refused("P27 slip: SLUG " + slug, INDEX, NIGHT, x -> x.slip(slug, 0, 0));
            refused("P27 slip: SLUG " + slug + ", no letter", INDEX, NIGHT, x -> x.slip(slug, 4, 26));
        }
        for (int i : new int[] {-1, 4, 5, LEAST, MOST}) {
            refused("P27 slip: letter " + i + " of four", ARGUMENT, NIGHT, x -> x.slip(6, i, 0));
            refused("P27 slip: letter " + i + " of four, of a PIED one", ARGUMENT, NIGHT, x -> x.slip(4, i, 0));
        }
        for (int letter : new int[] {-1, 26, LEAST, MOST}) {
            refused("P27 slip: another letter " + letter, ARGUMENT, NIGHT, x -> x.slip(6, 0, letter));
        }
        Scene parted = x -> {
            Checks.style(x, 0, Scenes.PAIRS);
            Checks.story(x, 0, 0, "abcd-ab cd ef");
            x.machine(9, 0);
            x.give(0, 0);
            x.minutes(1);
        };
        refused("P27 slip: a - is no letter", ARGUMENT, parted, x -> x.slip(0, 4, 0));
        answersAlone("P27 slip: it is that letter", 0, NIGHT, x -> bit(x.slip(6, 0, 'q' - 'a')));
        answersAlone("P27 slip: it is told to be that letter", 0, NIGHT, x -> bit(x.slip(0, 1, 25)));
    }
}
