/**
 * Part 5, and promises 23 to 27: of each sentence that names an edge what is taken last and refused first, nothing,
 * one, as many as there may be, and one more. What a refused call leaves as it was is in RefusalsOfMachinesTest.
 */
public final class EdgesOfSlugsTest extends Edges {
    public static void main(String[] args) {
        piedOnce();
        changedPlaces();
        changedWithItself();
        castOnAnotherOne();
        againWhereNothingLies();
        againAsItIsThen();
        againSpiked();
        againForThirty();
        correctWords();
        correctTexts();
        correctFortyBits();
        correctTapeOfMost();
        correctNotSet();
        correctNoLine();
        correctAllLines();
        correctFirstAndLast();
        correctMoreAndFewer();
        correctSaysTheSame();
        correctMovesNothing();
        correctThirty();
        correctWithAJob();
        correctedOnes();
        correctedIsTheFirst();
        slipEachLetter();
        slipBackAndForth();
        slipLongest();
        lost();
        Checks.finish("EdgesOfSlugsTest");
    }

    private static CountedRoom cast(String copy) {
        CountedRoom x = new CountedRoom();
        Checks.style(x, 0, Scenes.PAIRS);
        Checks.story(x, 0, 0, copy);
        x.machine(9, 0);
        Rooms.castAll(x);
        return x;
    }

    private static void slugIs(String what, CountedRoom x, int slug, int state, int place, int home) {
        same(what + ": what it is", state, x.slug(slug, 4));
        same(what + ": its PLACE", place, x.slug(slug, 5));
        same(what + ": the PART of that", home, x.slug(slug, 6));
    }

    private static void piedOnce() {
        CountedRoom x = cast("ab cd ef gh");
        same("P48 count: none is PIED", 0, x.count(6));
        same("P23 pie: it lies", true, x.pie(0));
        slugIs("P23 pie", x, 0, 1, NONE, NONE);
        same("P48 count: one is PIED", 1, x.count(6));
        same("P23 pie: it lies nowhere", false, x.pie(0));
        same("P48 count: one is PIED still", 1, x.count(6));
        same("P23 pie: the last one", true, x.pie(1));
        same("P48 count: none lies", 0, x.count(5));
        refuses("P23 pie: SLUG 2 of two", INDEX, () -> x.pie(2));
        refuses("P23 pie: SLUG -1", INDEX, () -> x.pie(-1));
        x.again(0, 0, 0);
        x.minutes(1);
        Checks.correct(x, 0, 0, 0, "xy");
        slugIs("P26 correct: it went to the POT", x, 2, 2, NONE, NONE);
        same("P23 pie: one in the POT", false, x.pie(2));
        same("P19 slug: it is in the POT still", 2, x.slug(2, 4));
    }

    private static void changedPlaces() {
        CountedRoom x = cast("ab cd ef gh / ij kl");
        same("P24 change: of one PART", true, x.change(0, 1));
        slugIs("P24 change: the first one", x, 0, 0, 1, 0);
        slugIs("P24 change: the second one", x, 1, 0, 0, 0);
        same("P21 lies: the second one at 0", 1, x.lies(0, 0));
        same("P21 lies: the first one at 1", 0, x.lies(0, 1));
        same("P24 change: of two PARTS", true, x.change(2, 0));
        slugIs("P24 change: the one of PART 1", x, 2, 0, 1, 0);
        slugIs("P24 change: the one of PART 0", x, 0, 0, 0, 1);
        same("P19 slug: its PART stays", 0, x.slug(0, 0));
        same("P19 slug: its LINE stays", 0, x.slug(0, 9));
        same("P24 change: back", true, x.change(0, 2));
        same("P24 change: back, too", true, x.change(1, 0));
        same("P22 judge: all are RIGHT again", NONE, x.judge(0));
        same("P22 judge: of PART 1, too", NONE, x.judge(1));
        x.pie(2);
        same("P24 change: a PIED one with one that lies", false, x.change(2, 0));
        same("P24 change: one that lies with a PIED one", false, x.change(0, 2));
        same("P21 lies: it lies where it did", 0, x.lies(0, 0));
        same("P21 lies: nothing lies there", NONE, x.lies(1, 0));
        refuses("P24 change: SLUG 3 of three", INDEX, () -> x.change(0, 3));
        refuses("P24 change: SLUG 3 of three, ahead", INDEX, () -> x.change(3, 0));
        refuses("P24 change: a PIED one with SLUG -1", INDEX, () -> x.change(2, -1));
    }

    private static void changedWithItself() {
        CountedRoom x = cast("ab cd ef gh");
        same("P24 change: itself, and it lies", true, x.change(1, 1));
        slugIs("P24 change: itself", x, 1, 0, 1, 0);
        same("P21 lies: where it did", 1, x.lies(0, 1));
        x.pie(1);
        same("P24 change: itself, and it is PIED", false, x.change(1, 1));
        slugIs("P24 change: itself, PIED", x, 1, 1, NONE, NONE);
    }

    private static void castOnAnotherOne() {
        CountedRoom x = cast("ab cd ef gh");
        x.pie(0);
        x.again(0, 0, 0);
        x.again(0, 0, 0);
        x.minutes(1);
        same("Part 4: it lies at the PLACE of its LINE", 2, x.lies(0, 0));
        same("Part 4: none is in the POT", 0, x.count(7));
        x.minutes(1);
        same("Part 4: one lies there, and goes to the POT", 3, x.lies(0, 0));
        slugIs("Part 4: that one", x, 2, 2, NONE, NONE);
        same("Part 4: one is in the POT", 1, x.count(7));
        x.pie(3);
        x.again(0, 0, 0);
        x.minutes(1);
        same("Part 4: a PIED one stays PIED", 1, x.slug(3, 4));
        same("Part 4: and one is in the POT still", 1, x.count(7));
    }

    private static void againWhereNothingLies() {
        CountedRoom x = cast("ab cd ef gh ij");
        for (int place = 0; place < 3; place++) {
            same("P25 again: a SLUG lies at PLACE " + place, NONE, x.again(0, place, 0));
        }
        refuses("P25 again: PLACE 3 of three", INDEX, () -> x.again(0, 3, 0));
        refuses("P25 again: PLACE -1 of three", INDEX, () -> x.again(0, -1, 0));
        for (int place = 0; place < 3; place++) {
            x.pie(place);
            same("P25 again: nothing lies at PLACE " + place, place + 1, x.again(0, place, 0));
        }
        same("P18 runs: three JOBS", 3, x.runs(0, 0));
        for (int place = 0; place < 3; place++) {
            x.minutes(1);
            same("P25 again: cast at PLACE " + place, 3 + place, x.lies(0, place));
            same("P18 runs: JOBS that are left", 2 - place, x.runs(0, 0));
            same("P19 slug: not CORRECTED", 0, x.slug(3 + place, 7));
        }
        same("P22 judge: all are RIGHT", NONE, x.judge(0));
        x.machine(9, 0);
        x.pie(5);
        same("P25 again: by the last MACHINE", 1, x.again(0, 2, 1));
        refuses("P25 again: by the one behind it", INDEX, () -> x.again(0, 2, 2));
    }

    /** A JOB takes its LINE as it is when it is cast: BRASSES and SLUGS of that minute, not of the telling. */
    private static void againAsItIsThen() {
        CountedRoom x = cast("ab cd ef gh");
        x.pie(1);
        x.again(0, 1, 0);
        x.broken(0, true);
        x.minutes(7);
        x.broken(0, false);
        x.minutes(1);
        same("P19 slug: its minute", 10, x.slug(2, 2));
        same("P19 slug: its LINE", 1, x.slug(2, 9));
        same("P20 says: as its LINE", "ef gh", Checks.said(x, 2));
    }

    private static void againSpiked() {
        CountedRoom x = cast("ab cd ef gh");
        x.pie(1);
        x.brass(0, 7, 0);
        x.again(0, 1, 0);
        x.minutes(1);
        same("Part 4: AGAIN without BRASSES, SPIKED", 1, x.runs(0, 3));
        same("P21 lies: nothing there", NONE, x.lies(0, 1));
        same("P25 again: once more", 1, x.again(0, 1, 0));
        x.brass(0, 7, 1);
        x.minutes(1);
        same("P21 lies: there it is", 2, x.lies(0, 1));
    }

    private static void againForThirty() {
        CountedRoom x = cast("ab cd ef gh");
        x.machine(9, 0);
        x.pie(1);
        for (int i = 1; i <= 30; i++) {
            same("P25 again: JOB " + i + " of 30", i, x.again(0, 1, 0));
        }
        refuses("P25 again: a 31st", UNSUPPORTED, () -> x.again(0, 1, 0));
        same("P25 again: of the other MACHINE the first", 1, x.again(0, 1, 1));
        x.minutes(1);
        x.pie(x.lies(0, 1));
        same("P25 again: a 30th again", 30, x.again(0, 1, 0));
        refuses("P25 again: a 31st again", UNSUPPORTED, () -> x.again(0, 1, 0));
        same("P18 runs: 30 JOBS", 30, x.runs(0, 0));
    }

    private static void correctWords() {
        for (int words = 1; words <= 24; words += 23) {
            CountedRoom x = new CountedRoom();
            Checks.story(x, 0, 0, Checks.many("ab", words, " "));
            x.machine(9, 0);
            same("P26 correct: WORD 0 of " + words, 0, Checks.correct(x, 0, 0, 0, "c"));
            same("P26 correct: the last WORD of " + words, 0, Checks.correct(x, 0, words - 1, 0, "d"));
            int next = words;
            refuses("P26 correct: one more than " + words, INDEX, () -> Checks.correct(x, 0, next, 0, "e"));
            refuses("P26 correct: WORD -1 of " + words, INDEX, () -> Checks.correct(x, 0, -1, 0, "e"));
            same("P8 part: as many WORDS", words, x.part(0, 0));
            Checks.style(x, 0, "measure 400; space 1 40");
            x.give(0, 0);
            x.brass(0, 0, 40);
            x.brass(0, 1, 40);
            x.minutes(1);
            String due = words == 1 ? "d" : "c " + Checks.many("ab", words - 2, " ") + " d";
            same("P20 says: the new WORDS", due, Checks.said(x, 0));
        }
    }

    private static void correctTexts() {
        String[] rights = {"a", " a", "a ", "   a   ", "abcdefghijkl", "a-b", "abcdefghijkl-abcdefghijkl",
            " ".repeat(399) + "a", "a" + " ".repeat(399)};
        for (String text : rights) {
            CountedRoom x = new CountedRoom();
            Checks.story(x, 0, 0, "ab cd");
            x.machine(9, 0);
            same("Part 5: one WORD, '" + text.trim() + "'", 0, Checks.correct(x, 0, 1, 0, text));
            same("P7 fault: none", NONE, x.fault());
            same("P3 end: the TAPE is used up", false, x.end(1));
        }
        String[] wrongs = {"", " ", "a/", "/", "a /", "a/b", "a b", "a  b", "a-b c", "-", "-a", "a-", "a- ", "a--b",
            "a -b", "abcdefghijklm", "a-abcdefghijklm", "A", "a1", "a;", " ".repeat(400)};
        int[] faults = {0, 1, 1, 0, 2, 1, 2, 3, 4, 0, 0, 2, 2, 2, 2, 12, 14, 0, 1, 1, 400};
        for (int i = 0; i < wrongs.length; i++) {
            for (boolean isSet : new boolean[] {false, true}) {
                CountedRoom x = isSet ? cast("ab cd") : new CountedRoom();
                if (!isSet) {
                    Checks.story(x, 0, 0, "ab cd");
                    x.machine(9, 0);
                }
                String text = wrongs[i];
                String of = "Part 5: no WORD, '" + text.trim() + "'" + (isSet ? ", SET" : "");
                refuses(of, ARGUMENT, () -> Checks.correct(x, 0, 1, 0, text));
                same(of + ", fault", faults[i], x.fault());
                same(of + ", the TAPE is used up", false, x.end(1));
                same(of + ", as many PIECES", 2, x.part(0, 1));
            }
        }
    }

    private static void correctFortyBits() {
        CountedRoom x = new CountedRoom();
        x.machine(9, 0);
        Checks.story(x, 0, 0, Checks.many("a", 38, "-") + " b");
        same("Part 5: 39 and one BIT are 40", 0, Checks.correct(x, 0, 1, 0, "b-c"));
        same("P8 part: 40 PIECES", 40, x.part(0, 1));
        refuses("Part 5: 41 BITS", ARGUMENT, () -> Checks.correct(x, 0, 1, 0, "b-c-dd"));
        same("Part 5: the 41st one's first letter", 4, x.fault());
        refuses("Part 5: 41 BITS by the first WORD", ARGUMENT,
            () -> Checks.correct(x, 0, 0, 0, Checks.many("a", 38, "-") + "-cd"));
        same("Part 5: its first letter", 76, x.fault());
        refuses("Part 5: 42 BITS, the 41st is told", ARGUMENT, () -> Checks.correct(x, 0, 1, 0, "b-c-d-e"));
        same("Part 5: not the 42nd", 4, x.fault());
        same("Part 5: 40 BITS by the first WORD", 0, Checks.correct(x, 0, 0, 0, Checks.many("c", 38, "-")));
        same("Part 5: one BIT by the first WORD", 0, Checks.correct(x, 0, 0, 0, "c"));
        same("P8 part: three PIECES", 3, x.part(0, 1));
        same("Part 5: 40 BITS again", 0, Checks.correct(x, 0, 0, 0, Checks.many("d", 38, "-")));
        refuses("Part 5: a 13th letter comes ahead of a 41st BIT", ARGUMENT,
            () -> Checks.correct(x, 0, 0, 0, "abcdefghijklm-" + Checks.many("d", 39, "-")));
        same("Part 5: the 13th letter", 12, x.fault());
        CountedRoom y = new CountedRoom();
        y.machine(9, 0);
        Checks.story(y, 0, 0, Checks.many("a", 40, "-"));
        same("Part 5: the only WORD, 40 BITS", 0, Checks.correct(y, 0, 0, 0, Checks.many("b", 40, "-")));
        refuses("Part 5: the only WORD, 41 BITS", ARGUMENT, () -> Checks.correct(y, 0, 0, 0, Checks.many("b", 41, "-")));
        same("Part 5: the 41st of the only WORD", 80, y.fault());
    }

    private static void correctTapeOfMost() {
        CountedRoom x = new CountedRoom();
        x.machine(9, 0);
        Checks.story(x, 0, 0, "a");
        String most = Checks.many("abcdefghijkl", 30, "-");
        same("P26 correct: 400 bytes", 0, Checks.correct(x, 0, 0, 0, most + " ".repeat(11)));
        same("P8 part: 30 PIECES", 30, x.part(0, 1));
        refuses("P26 correct: 400 bytes, and more must come", ARGUMENT,
            () -> Checks.correct(x, 0, 0, 0, most + "-" + "abcdefghi-"));
        same("P7 fault: the text's length", 400, x.fault());
    }

    private static void correctNotSet() {
        CountedRoom x = new CountedRoom();
        Checks.style(x, 0, Scenes.PAIRS);
        Checks.story(x, 0, 0, "ab cd");
        x.machine(9, 0);
        same("Part 5: not SET, it may have no BEST then", 0, Checks.correct(x, 0, 0, 0, "abcdef"));
        same("P10 best: none", NONE, x.best(0, 0));
        x.give(0, 0);
        same("Part 5: not SET, in the QUEUE", 0, Checks.correct(x, 0, 0, 0, "ef"));
        same("P18 runs: one JOB", 1, x.runs(0, 0));
        same("P48 count: no SLUG", 0, x.count(4));
        x.minutes(1);
        same("P20 says: what it is then", "ef cd", Checks.said(x, 0));
        same("P19 slug: not CORRECTED", 0, x.slug(0, 7));
        same("P48 count: none is CORRECTED", 0, x.count(8));
    }

    private static void correctNoLine() {
        CountedRoom x = cast("ab cd ef gh");
        same("P26 correct: no LINE, the same WORD", 0, Checks.correct(x, 0, 0, 0, "ab"));
        same("P48 count: no JOB", 0, x.count(12));
        same("P26 correct: no BEST", NONE, Checks.correct(x, 0, 0, 0, "abcdefgh"));
        same("P48 count: no JOB either", 0, x.count(12));
        same("P8 part: its LINES stay", 2, x.part(0, 5));
        same("P48 count: none is in the POT", 0, x.count(7));
        // y is 6 wide: ef gy is 20, and ef zy 21
        x.width(0, 24, 6);
        x.width(0, 25, 5);
        same("P26 correct: no BEST by one above MEASURE", NONE, Checks.correct(x, 0, 3, 0, "zy"));
        same("P26 correct: BEST by just MEASURE", 1, Checks.correct(x, 0, 3, 0, "gy"));
    }

    private static void correctAllLines() {
        CountedRoom x = new CountedRoom();
        Checks.style(x, 0, "measure 12; part 0");
        Checks.story(x, 0, 0, Checks.many("aa", 39, "-") + "-aaa");
        x.machine(40, 0);
        x.give(0, 0);
        x.minutes(40);
        same("P48 count: 40 SLUGS", 40, x.count(4));
        String other = Checks.many("ab", 39, "-") + "-abc";
        same("P26 correct: 40 LINES", 40, Checks.correct(x, 0, 0, 0, other));
        same("P48 count: 40 in the POT", 40, x.count(7));
        same("P18 runs: one JOB", 1, x.runs(0, 0));
        x.minutes(39);
        same("P22 judge: the last one is not RIGHT", 39, x.judge(0));
        x.minutes(1);
        same("P22 judge: all are RIGHT", NONE, x.judge(0));
        same("P48 count: 40 CORRECTED ones", 40, x.count(8));
        same("P18 runs: no JOB", 0, x.runs(0, 0));
    }

    private static void correctFirstAndLast() {
        CountedRoom x = cast("ab cd ef gh ij kl");
        same("P26 correct: the first WORD, one LINE", 1, Checks.correct(x, 0, 0, 0, "xb"));
        same("Part 5: the first one is in the POT", 2, x.slug(0, 4));
        same("Part 5: the second one stays", 1, x.lies(0, 1));
        x.minutes(1);
        same("P26 correct: the last WORD, one LINE", 1, Checks.correct(x, 0, 5, 0, "xl"));
        same("Part 5: the last one is in the POT", 2, x.slug(2, 4));
        same("Part 5: the second one stays still", 1, x.lies(0, 1));
        x.minutes(1);
        same("P22 judge: all are RIGHT", NONE, x.judge(0));
        same("P20 says: the first LINE", "xb cd", Checks.said(x, x.lies(0, 0)));
        same("P20 says: the last LINE", "ij xl", Checks.said(x, x.lies(0, 2)));
    }

    private static void correctMoreAndFewer() {
        // one LINE becomes two, and two become one
        CountedRoom x = cast("ab cd");
        same("Part 5: one LINE, then two", 2, Checks.correct(x, 0, 0, 0, "abcde"));
        same("P8 part: two LINES", 2, x.part(0, 5));
        same("Part 5: the only one is in the POT", 2, x.slug(0, 4));
        refuses("P21 lies: PLACE 2 of two", INDEX, () -> x.lies(0, 2));
        x.minutes(2);
        same("P20 says: the first", "abcde", Checks.said(x, 1));
        same("P20 says: the second", "cd", Checks.said(x, 2));
        same("Part 5: two LINES, then one", 1, Checks.correct(x, 0, 0, 0, "ef"));
        same("P8 part: one LINE", 1, x.part(0, 5));
        same("P48 count: three in the POT", 3, x.count(7));
        refuses("P21 lies: PLACE 1 of one", INDEX, () -> x.lies(0, 1));
        x.minutes(1);
        same("P22 judge: it is RIGHT", NONE, x.judge(0));
        // all of the new ones SAY the same as the last old ones
        CountedRoom y = cast("abcde ab cd");
        same("Part 5: two LINES", 2, y.part(0, 5));
        Checks.style(y, 2, "measure 400; space 1 40");
        same("Part 5: all in one LINE, by the STYLE of NOW", 1, Checks.correct(y, 0, 0, 0, "abcde"));
        same("P8 part: one LINE then", 1, y.part(0, 5));
        same("P48 count: both in the POT", 2, y.count(7));
    }

    private static void correctSaysTheSame() {
        // abcd- ab | cd ef: without its first BIT the PART is ab cd | ef
        CountedRoom x = cast("abcd-ab cd ef gh ij kl");
        same("P8 part: four LINES", 4, x.part(0, 5));
        same("Part 5: all new ones are the same as the last old ones", 0, Checks.correct(x, 0, 0, 0, "ab"));
        same("P8 part: three LINES", 3, x.part(0, 5));
        for (int place = 0; place < 3; place++) {
            same("Part 5: what lay at " + (place + 1) + " lies at " + place, place + 1, x.lies(0, place));
            slugIs("Part 5: what lay at " + (place + 1), x, place + 1, 0, place, 0);
        }
        slugIs("Part 5: what lay at 0", x, 0, 2, NONE, NONE);
        same("P22 judge: all are RIGHT", NONE, x.judge(0));
        same("Part 5: all old ones are the same as the last new ones", 1, Checks.correct(x, 0, 0, 0, "abcd-ab"));
        same("P8 part: four LINES again", 4, x.part(0, 5));
        same("P21 lies: nothing at 0", NONE, x.lies(0, 0));
        for (int place = 1; place < 4; place++) {
            same("Part 5: what lay at " + (place - 1) + " lies at " + place, place, x.lies(0, place));
        }
        same("P48 count: one in the POT still", 1, x.count(7));
        same("P18 runs: one JOB", 1, x.runs(0, 0));
        x.minutes(1);
        same("P20 says: the one that was cast", "abcd-", Checks.said(x, 4));
        same("P22 judge: all are RIGHT again", NONE, x.judge(0));
    }

    private static void correctMovesNothing() {
        CountedRoom x = cast("abcd-ab cd ef gh");
        x.pie(1);
        x.pie(2);
        same("Part 5: nothing lies at those that are the same", 0, Checks.correct(x, 0, 0, 0, "ab"));
        same("P21 lies: nothing at 0", NONE, x.lies(0, 0));
        same("P21 lies: nothing at 1", NONE, x.lies(0, 1));
        same("P48 count: none lies", 0, x.count(5));
        same("P22 judge: the first one", 0, x.judge(0));
        same("P25 again: a JOB", 1, x.again(0, 1, 0));
        x.minutes(1);
        same("P20 says: its LINE", "ef gh", Checks.said(x, 3));
    }

    private static void correctThirty() {
        CountedRoom x = new CountedRoom();
        Scenes.jobs(x);
        x.machine(9, 0);
        refuses("P26 correct: 30 JOBS", UNSUPPORTED, () -> Checks.correct(x, 5, 0, 0, "xy"));
        x.minutes(1);
        same("P18 runs: 29 JOBS", 29, x.runs(0, 0));
        same("P26 correct: 29 JOBS, and it is the 30th", 3, Checks.correct(x, 5, 0, 0, "xyxyx"));
        same("P18 runs: 30 JOBS", 30, x.runs(0, 0));
        refuses("P26 correct: 30 JOBS, of a PART that is not SET", UNSUPPORTED, () -> Checks.correct(x, 10, 0, 0, "xy"));
        same("P26 correct: by another MACHINE", 0, Checks.correct(x, 10, 0, 1, "xy"));
    }

    private static void correctWithAJob() {
        CountedRoom x = new CountedRoom();
        Checks.style(x, 0, Scenes.PAIRS);
        Checks.story(x, 0, 0, "ab cd ef gh / ij");
        x.machine(9, 0);
        x.machine(9, 0);
        x.give(0, 0);
        same("P26 correct: not SET, and a JOB of it", 0, Checks.correct(x, 0, 0, 0, "xb"));
        x.minutes(1);
        refuses("P26 correct: SET, and a JOB of it that is begun", STATE, () -> Checks.correct(x, 0, 0, 1, "yb"));
        x.minutes(1);
        same("P26 correct: SET, and no JOB of it", 1, Checks.correct(x, 0, 0, 1, "yb"));
        refuses("P26 correct: SET, and a JOB of a CORRECTION", STATE, () -> Checks.correct(x, 0, 0, 0, "zb"));
        x.minutes(1);
        x.pie(1);
        x.give(1, 0);
        same("P26 correct: SET, and a JOB of another PART", 0, Checks.correct(x, 0, 0, 0, "yb"));
        x.again(0, 1, 1);
        refuses("P26 correct: SET, and a JOB of casting AGAIN", STATE, () -> Checks.correct(x, 0, 0, 0, "zb"));
        x.broken(1, true);
        refuses("P26 correct: SET, and a JOB of a BROKEN MACHINE", STATE, () -> Checks.correct(x, 0, 0, 0, "zb"));
        x.brass(1, 7, 0);
        x.broken(1, false);
        x.minutes(1);
        same("P26 correct: its JOB was SPIKED", 1, Checks.correct(x, 0, 0, 0, "zb"));
    }

    private static void correctedOnes() {
        CountedRoom x = cast("ab cd ef gh");
        Checks.correct(x, 0, 0, 0, "xb");
        same("P48 count: none is CORRECTED yet", 0, x.count(8));
        x.minutes(1);
        same("P19 slug: CORRECTED", 1, x.slug(2, 7));
        same("P19 slug: the others are not", 0, x.slug(0, 7) + x.slug(1, 7));
        same("P48 count: one is CORRECTED", 1, x.count(8));
        Checks.correct(x, 0, 0, 0, "yb");
        x.minutes(1);
        same("P48 count: one in the POT and another one", 2, x.count(8));
        x.pie(3);
        same("P48 count: a PIED one, too", 2, x.count(8));
        x.again(0, 0, 0);
        x.minutes(1);
        same("P19 slug: cast AGAIN it is none", 0, x.slug(4, 7));
        same("P20 says: the new LINE", "yb cd", Checks.said(x, 4));
    }

    /** A PART may be SET, and none of its LINES be cast: then the first SLUG of all is a CORRECTED one. */
    private static void correctedIsTheFirst() {
        CountedRoom x = new CountedRoom();
        Checks.style(x, 0, Scenes.PAIRS);
        Checks.story(x, 0, 0, "ab cd");
        x.machine(9, 0);
        x.brass(0, 0, 0);
        x.give(0, 0);
        x.minutes(1);
        same("P8 part: SET, and SPIKED", 1, x.part(0, 5));
        same("P26 correct: one LINE", 1, Checks.correct(x, 0, 0, 0, "xb"));
        x.minutes(1);
        same("P19 slug: the first one is CORRECTED", 1, x.slug(0, 7));
        same("P48 count: one is CORRECTED", 1, x.count(8));
        same("P48 count: of one SLUG", 1, x.count(4));
    }

    private static void slipEachLetter() {
        CountedRoom x = new CountedRoom();
        Checks.style(x, 0, "measure 22; space 2 6; part 0");
        Checks.story(x, 0, 0, "ab c-d ef");
        Checks.story(x, 0, 0, "ab cd ef-gh");
        x.machine(9, 0);
        Rooms.castAll(x);
        for (int slug = 0; slug < x.count(4); slug++) {
            String says = Checks.said(x, slug);
            int letters = says.replace(" ", "").replace("-", "").length();
            for (int i = 0; i < letters; i++) {
                same("P27 slip: letter " + i + " of '" + says + "'", true, x.slip(slug, i, 25));
                same("P27 slip: it was that one", false, x.slip(slug, i, 25));
            }
            int of = slug;
            refuses("P27 slip: letter " + letters + " of '" + says + "'", ARGUMENT, () -> x.slip(of, letters, 25));
            refuses("P27 slip: letter -1 of '" + says + "'", ARGUMENT, () -> x.slip(of, -1, 25));
            refuses("P27 slip: letter MOST of '" + says + "'", ARGUMENT, () -> x.slip(of, Integer.MAX_VALUE, 25));
            same("P20 says: blanks and - stay", says.replaceAll("[a-z]", "z"), Checks.said(x, slug));
        }
        for (int letter : new int[] {0, 1, 24, 25}) {
            x.slip(0, 0, 12);
            same("P27 slip: another one, " + letter, true, x.slip(0, 0, letter));
            same("P20 says: that one", 'a' + letter, x.says(0, 0));
        }
        for (int letter : new int[] {-1, 26, Integer.MIN_VALUE, Integer.MAX_VALUE}) {
            refuses("P27 slip: none, " + letter, ARGUMENT, () -> x.slip(0, 0, letter));
        }
        same("P20 says: it stays", 'z', x.says(0, 0));
    }

    private static void slipBackAndForth() {
        CountedRoom x = cast("ab cd");
        same("P19 slug: not WRONG", 0, x.slug(0, 8));
        x.slip(0, 0, 1);
        same("P19 slug: one letter, WRONG", 1, x.slug(0, 8));
        x.slip(0, 3, 1);
        same("P19 slug: two letters, WRONG", 1, x.slug(0, 8));
        x.slip(0, 0, 2);
        x.slip(0, 0, 0);
        same("P19 slug: one letter is back, WRONG", 1, x.slug(0, 8));
        x.slip(0, 3, 3);
        same("P19 slug: both are back", 0, x.slug(0, 8));
        same("P48 count: none is WRONG", 0, x.count(9));
        x.slip(0, 3, 4);
        same("P48 count: one is WRONG", 1, x.count(9));
        x.pie(0);
        same("P48 count: none that lies is WRONG", 0, x.count(9));
        same("P27 slip: a PIED one", true, x.slip(0, 3, 3));
        same("P19 slug: it is not WRONG then", 0, x.slug(0, 8));
    }

    private static void slipLongest() {
        CountedRoom x = cast("a");
        same("P27 slip: the only letter", true, x.slip(0, 0, 25));
        refuses("P27 slip: letter 1 of one", ARGUMENT, () -> x.slip(0, 1, 25));
        refuses("P27 slip: SLUG 1 of one", INDEX, () -> x.slip(1, 0, 25));
        refuses("P27 slip: SLUG 1 of one, and no letter", INDEX, () -> x.slip(1, 1, 26));
    }

    private static void lost() {
        CountedRoom x = cast("ab cd ef gh / ij kl");
        same("P8 part: none was lost", 0, x.part(0, 7));
        x.change(0, 2);
        x.pie(0);
        same("P8 part: its own one, PIED elsewhere", 1, x.part(0, 7));
        same("P8 part: not one of the other PART", 0, x.part(1, 7));
        Checks.correct(x, 0, 0, 0, "xb");
        same("P8 part: that of the other PART went to the POT", 1, x.part(1, 7));
        same("P8 part: its own ones as before", 1, x.part(0, 7));
        same("P19 slug: which one", 2, x.slug(2, 4));
    }
}
