/** Promises 23 to 26, and the POT: PIED, CHANGED, cast AGAIN, CORRECTIONS. */
public final class SlugsTest extends Checked {
    public static void main(String[] args) {
        pie();
        change();
        changeOfTwoParts();
        again();
        againWhatLies();
        againRefuses();
        againThirty();
        correctNotSet();
        correctOneLine();
        correctMovesPlaces();
        correctWithFewerLines();
        correctWithoutBest();
        correctFromItsLineOn();
        correctSameWord();
        correctByTheStyleOfNow();
        correctWithGaps();
        correctRefuses();
        jobsInTurn();
        correctTexts();
        Checks.finish("SlugsTest");
    }

    private static void pie() {
        CountedRoom x = Rooms.pairs(9, 0, "ab cd ef");
        Rooms.castAll(x);
        same("P23 pied", true, x.pie(1));
        same("P23 it lies nowhere", false, x.pie(1));
        same("P19 pied", 1, x.slug(1, 4));
        same("P19 no place", NONE, x.slug(1, 5));
        same("P19 no part of it", NONE, x.slug(1, 6));
        same("P21 nothing lies there", NONE, x.lies(0, 1));
        same("P48 lie", 1, x.count(5));
        same("P48 pied", 1, x.count(6));
        same("P48 pot", 0, x.count(7));
        same("P8 one went", 1, x.part(0, 7));
        refuses("P23 slug 2", INDEX, () -> x.pie(2));
        refuses("P23 slug -1", INDEX, () -> x.pie(-1));
        x.again(0, 1, 0);
        x.minutes(1);
        same("P23 a slug in the pot lies nowhere", false, potOf(x));
    }

    /** Pies a SLUG that went to the POT. */
    private static boolean potOf(CountedRoom x) {
        Checks.correct(x, 0, 2, 0, "gh");
        same("P26 it went to the pot", 2, x.slug(2, 4));
        return x.pie(2);
    }

    private static void change() {
        CountedRoom x = Rooms.pairs(9, 0, "ab cd ef gh ij");
        Rooms.castAll(x);
        same("P24 changed", true, x.change(0, 2));
        same("P21 the third in the first place", 2, x.lies(0, 0));
        same("P21 the first in the third place", 0, x.lies(0, 2));
        same("P19 its place", 2, x.slug(0, 5));
        same("P19 its line is as it was cast", 0, x.slug(0, 9));
        same("P24 with itself", true, x.change(1, 1));
        same("P21 it stays", 1, x.lies(0, 1));
        x.pie(1);
        same("P24 one lies nowhere", false, x.change(0, 1));
        same("P24 the other way", false, x.change(1, 0));
        same("P24 with itself", false, x.change(1, 1));
        same("P21 nothing happened", 0, x.lies(0, 2));
        refuses("P24 slug 3", INDEX, () -> x.change(0, 3));
        refuses("P24 slug -1", INDEX, () -> x.change(-1, 0));
        refuses("P24 none, with one that lies nowhere", INDEX, () -> x.change(1, 3));
    }

    private static void changeOfTwoParts() {
        CountedRoom x = Rooms.pairs(9, 0, "ab cd ef", "gh ij");
        Rooms.castAll(x);
        same("P24 changed", true, x.change(1, 2));
        same("P19 the part where it lies", 5, x.slug(1, 6));
        same("P19 the place there", 0, x.slug(1, 5));
        same("P19 its own part", 0, x.slug(1, 0));
        same("P19 the other one", 0, x.slug(2, 6));
        same("P19 its place", 1, x.slug(2, 5));
        same("P21 there", 1, x.lies(5, 0));
        x.pie(1);
        same("P8 its own part lost it", 1, x.part(0, 7));
        same("P8 the other one did not", 0, x.part(5, 7));
        same("P21 empty", NONE, x.lies(5, 0));
        Checks.correct(x, 0, 2, 0, "kl");
        same("P26 what lay there goes to the pot", 2, x.slug(2, 4));
        same("P8 its own part lost it", 1, x.part(5, 7));
    }

    private static void again() {
        CountedRoom x = Rooms.pairs(9, 0, "ab cd ef gh ij");
        x.machine(9, 0);
        Rooms.castAll(x);
        x.pie(1);
        same("P25 a job", 1, x.again(0, 1, 1));
        same("P18 its part", 0, x.runs(1, 5));
        same("P25 another one of the same line", 2, x.again(0, 1, 1));
        x.minutes(1);
        same("P21 it lies there", 3, x.lies(0, 1));
        same("P19 line", 1, x.slug(3, 9));
        same("P19 it is not corrected", 0, x.slug(3, 7));
        same("P20 it says the same", "ef gh", Checks.said(x, 3));
        x.minutes(1);
        same("P21 the second one in its place", 4, x.lies(0, 1));
        same("P19 what lay there is in the pot", 2, x.slug(3, 4));
        same("P48 pot", 1, x.count(7));
        same("P19 the pied one stays pied", 1, x.slug(1, 4));
        same("P18 no job", 0, x.runs(1, 0));
        same("P18 two lines", 2, x.runs(1, 1));
    }

    private static void againWhatLies() {
        CountedRoom x = Rooms.pairs(9, 0, "ab cd ef gh ij");
        Rooms.castAll(x);
        same("P25 a slug lies there", NONE, x.again(0, 1, 0));
        same("P25 nothing happens", 0, x.count(12));
        x.slip(1, 0, 0);
        same("P25 also a wrong one", NONE, x.again(0, 1, 0));
        CountedRoom y = Rooms.pairs(9, 0, "ab cd ef gh ij");
        y.give(0, 0);
        y.minutes(1);
        same("P25 a line that is still to be cast", 2, y.again(0, 2, 0));
        y.minutes(3);
        same("P21 it was cast twice", 3, y.lies(0, 2));
        same("P19 the first one is in the pot", 2, y.slug(2, 4));
    }

    private static void againRefuses() {
        CountedRoom x = Rooms.pairs(9, 0, "ab cd ef gh ij", "kl");
        refuses("P25 no part", INDEX, () -> x.again(1, 0, 0));
        refuses("P25 no machine, ahead of not set", INDEX, () -> x.again(0, 0, 1));
        refuses("P25 machine -1", INDEX, () -> x.again(0, 0, -1));
        refuses("P25 not set", STATE, () -> x.again(0, 0, 0));
        x.give(0, 0);
        x.minutes(3);
        refuses("P25 place 3", INDEX, () -> x.again(0, 3, 0));
        refuses("P25 place -1", INDEX, () -> x.again(0, -1, 0));
        refuses("P25 part 5 is not set", STATE, () -> x.again(5, 0, 0));
    }

    private static void againThirty() {
        CountedRoom x = Rooms.pairs(9, 0, "ab cd ef gh ij");
        Rooms.castAll(x);
        x.pie(2);
        for (int i = 1; i <= 30; i++) {
            same("P25 jobs", i, x.again(0, 2, 0));
        }
        refuses("P25 a 31st", UNSUPPORTED, () -> x.again(0, 2, 0));
        refuses("P25 also where one lies", UNSUPPORTED, () -> x.again(0, 1, 0));
        refuses("P25 a place that is none, ahead of that", INDEX, () -> x.again(0, 3, 0));
        Checks.story(x, 0, 0, "mn");
        refuses("P26 30 jobs, of a part that is not set", UNSUPPORTED, () -> Checks.correct(x, 5, 0, 0, "op"));
        refuses("P26 a wrong text, ahead of that", ARGUMENT, () -> Checks.correct(x, 5, 0, 0, "op op"));
        refuses("P26 a job in a queue, ahead of that", STATE, () -> Checks.correct(x, 0, 0, 0, "op"));
        refuses("P16 30 jobs", UNSUPPORTED, () -> x.give(5, 0));
        x.machine(9, 0);
        same("P26 by another machine", 0, Checks.correct(x, 5, 0, 1, "op"));
    }

    private static void correctNotSet() {
        CountedRoom x = Rooms.pairs(9, 0, "ab cd-ef gh");
        same("P26 no line", 0, Checks.correct(x, 0, 1, 0, " x-y-z "));
        same("P8 words", 3, x.part(0, 0));
        same("P8 pieces", 5, x.part(0, 1));
        same("P26 no job", 0, x.count(12));
        same("P26 the first word", 0, Checks.correct(x, 0, 0, 0, "a"));
        same("P26 the last word", 0, Checks.correct(x, 0, 2, 0, "kl-mn"));
        Checks.style(x, 0, "measure 400; space 1 40");
        x.give(0, 0);
        x.minutes(1);
        same("P20 all three", "a xyz klmn", Checks.said(x, 0));
        same("P19 not a corrected one", 0, x.slug(0, 7));
        same("P26 used up", false, x.end(1));
        same("P8 still given once", NONE, x.give(0, 0));
    }

    private static void correctOneLine() {
        CountedRoom x = Rooms.pairs(9, 0, "ab cd ef gh ij kl");
        x.machine(9, 0);
        Rooms.castAll(x);
        same("P26 one line", 1, Checks.correct(x, 0, 2, 1, "xy"));
        same("P21 the first stays", 0, x.lies(0, 0));
        same("P21 the second is empty", NONE, x.lies(0, 1));
        same("P21 the third stays", 2, x.lies(0, 2));
        same("P19 the old one is in the pot", 2, x.slug(1, 4));
        same("P19 it has no place", NONE, x.slug(1, 5));
        same("P48 a job", 1, x.runs(1, 0));
        same("P48 none yet", 0, x.count(8));
        refuses("P26 a job of it is in a queue", STATE, () -> Checks.correct(x, 0, 0, 0, "xy"));
        x.minutes(1);
        same("P21 cast", 3, x.lies(0, 1));
        same("P20 it says", "xy gh", Checks.said(x, 3));
        same("P19 corrected", 1, x.slug(3, 7));
        same("P19 of machine 1", 1, x.slug(3, 1));
        same("P48 corrected", 1, x.count(8));
        same("P22 all right", NONE, x.judge(0));
        same("P48 pot", 1, x.count(7));
        x.pie(3);
        x.again(0, 1, 0);
        x.minutes(1);
        same("P19 cast again it is not", 0, x.slug(4, 7));
        same("P48 the pied one was cast, too", 1, x.count(8));
    }

    private static void correctMovesPlaces() {
        CountedRoom x = Rooms.pairs(9, 0, "ab cd ef gh ij kl");
        Rooms.castAll(x);
        x.change(0, 2);
        // abcd- | ab cd | ef gh | ij kl
        same("P26 a line more", 1, Checks.correct(x, 0, 0, 0, "abcd-ab"));
        same("P8 lines", 4, x.part(0, 5));
        same("P21 the new one is empty", NONE, x.lies(0, 0));
        same("P21 what lay at 0 lies at 1", 2, x.lies(0, 1));
        same("P21 what lay at 1 lies at 2", 1, x.lies(0, 2));
        same("P21 what lay at 2 lies at 3", 0, x.lies(0, 3));
        same("P19 its place", 3, x.slug(0, 5));
        same("P48 nothing went", 3, x.count(5));
        x.change(0, 2);
        x.minutes(1);
        same("P22 all right", NONE, x.judge(0));
        same("P20 it says", "abcd-", Checks.said(x, 3));
        same("P11 ends", "0 2 4 6", Checks.ends(x, 0));
    }

    private static void correctWithFewerLines() {
        CountedRoom x = Rooms.pairs(9, 0, "abcd-ab cd ef gh ij kl");
        Rooms.castAll(x);
        same("P26 nothing is to be cast", 0, Checks.correct(x, 0, 0, 0, "ab"));
        same("P26 no job", 0, x.count(12));
        same("P8 lines", 3, x.part(0, 5));
        same("P19 the first one is in the pot", 2, x.slug(0, 4));
        same("P21 the second one is first", 1, x.lies(0, 0));
        same("P21 the last one", 3, x.lies(0, 2));
        refuses("P21 no fourth place", INDEX, () -> x.lies(0, 3));
        same("P22 all right", NONE, x.judge(0));
        same("P48 pot", 1, x.count(7));
    }

    private static void correctWithoutBest() {
        CountedRoom x = Rooms.pairs(9, 0, "ab cd ef gh ij kl");
        Rooms.castAll(x);
        // 24 wide, of 20
        same("P26 none", NONE, Checks.correct(x, 0, 2, 0, "abcdef"));
        same("P8 the pieces stay", 6, x.part(0, 1));
        same("P26 none of two bits either", NONE, Checks.correct(x, 0, 2, 0, "abcdef-a"));
        same("P7 the text was right", NONE, x.fault());
        same("P8 the copy stays", 6, x.part(0, 1));
        same("P8 the lines stay", 3, x.part(0, 5));
        same("P21 the slugs stay", 1, x.lies(0, 1));
        same("P26 no job", 0, x.count(12));
        same("P22 all right", NONE, x.judge(0));
        same("P26 used up", false, x.end(1));
    }

    private static void correctFromItsLineOn() {
        CountedRoom x = Rooms.pairs(9, 0, "ab cd ef gh ij kl mn");
        Rooms.castAll(x);
        // the second line is opened: efghi | gh ij | kl mn
        same("P26 three lines", 3, Checks.correct(x, 0, 2, 0, "efghi"));
        same("P11 ends", "1 2 4 6", Checks.ends(x, 0));
        same("P21 the first stays", 0, x.lies(0, 0));
        same("P48 three in the pot", 3, x.count(7));
        x.minutes(1);
        same("P20 efghi", "efghi", Checks.said(x, 4));
        x.minutes(2);
        same("P21 the last one", 6, x.lies(0, 3));
        same("P22 all right", NONE, x.judge(0));
        same("P48 three corrected", 3, x.count(8));
        // a word that goes on over two lines: the first one of them is opened
        CountedRoom y = Rooms.pairs(9, 0, "ab cd efgh-ij kl mn op");
        Rooms.castAll(y);
        same("P11 ends", "1 2 4 6", Checks.ends(y, 0));
        same("P26 both lines", 2, Checks.correct(y, 0, 2, 0, "efgi-jj"));
        same("P21 the first stays", 0, y.lies(0, 0));
        same("P21 the second does not", NONE, y.lies(0, 1));
        same("P21 nor the third", NONE, y.lies(0, 2));
        same("P21 the last one stays", 3, y.lies(0, 3));
        y.minutes(2);
        // the first line that is opened says the same, but only from the last one backward that counts
        same("P26 both lines again", 2, Checks.correct(y, 0, 2, 0, "efgi-ij"));
        same("P19 the one that says the same is in the pot", 2, y.slug(4, 4));
        same("P21 its place is empty", NONE, y.lies(0, 1));
    }

    private static void correctSameWord() {
        CountedRoom x = Rooms.pairs(9, 0, "ab cd ef gh ij kl");
        Rooms.castAll(x);
        same("P26 the same word", 0, Checks.correct(x, 0, 0, 0, "ab"));
        same("P21 all stay", 0, x.lies(0, 0));
        same("P48 no pot", 0, x.count(7));
        same("P26 other bits that say the same", 0, Checks.correct(x, 0, 0, 0, "a-b"));
        same("P8 a piece more", 7, x.part(0, 1));
        same("P11 ends", "2 4 6", Checks.ends(x, 0));
        same("P48 no pot still", 0, x.count(7));
    }

    private static void correctByTheStyleOfNow() {
        CountedRoom x = Rooms.pairs(40, 0, "ab cd ef gh ij kl");
        Rooms.castAll(x);
        Checks.style(x, x.count(0), "measure 400; space 1 40");
        // the first line stays as it is, all that is behind is one line
        same("P26 one line", 1, Checks.correct(x, 0, 2, 0, "xy"));
        same("P11 ends", "1 5", Checks.ends(x, 0));
        same("P8 lines", 2, x.part(0, 5));
        same("P48 pot", 2, x.count(7));
        x.minutes(1);
        same("P20 it says", "xy gh ij kl", Checks.said(x, 3));
        // the words of the new copy count: seven of them make another measure
        CountedRoom y = Rooms.pairs(40, 0, "ab cd-ef");
        Checks.style(y, 0, "measure 400; measure 26 if bits > 3");
        Rooms.castAll(y);
        same("P8 one line", 1, y.part(0, 5));
        same("P26 with four bits it is narrower", 2, Checks.correct(y, 0, 1, 0, "cd-ef-gh"));
        same("P11 ends", "1 3", Checks.ends(y, 0));
    }

    private static void correctWithGaps() {
        CountedRoom x = Rooms.pairs(9, 0, "ab cd ef gh ij kl");
        Rooms.castAll(x);
        x.pie(2);
        x.slip(0, 0, 25);
        same("P26 the tail is the same, though nothing lies there", 1, Checks.correct(x, 0, 2, 0, "xy"));
        same("P21 nothing lies there still", NONE, x.lies(0, 2));
        same("P21 the wrong one stays", 0, x.lies(0, 0));
        same("P22 the wrong one", 0, x.judge(0));
        x.minutes(1);
        same("P26 the wrong one goes", 1, Checks.correct(x, 0, 0, 0, "zb"));
        same("P19 to the pot, though it says what the line says now", 2, x.slug(0, 4));
    }

    private static void correctRefuses() {
        CountedRoom x = Rooms.pairs(9, 0, "ab cd", "ef");
        refuses("P26 no part", INDEX, () -> Checks.correct(x, 1, 0, 0, "??"));
        refuses("P26 no word 2", INDEX, () -> Checks.correct(x, 0, 2, 0, "??"));
        refuses("P26 no word -1", INDEX, () -> Checks.correct(x, 0, -1, 0, "??"));
        refuses("P26 no machine 1", INDEX, () -> Checks.correct(x, 0, 0, 1, "??"));
        refuses("P26 no machine -1", INDEX, () -> Checks.correct(x, 0, 0, -1, "??"));
        same("P7 nothing was read", NONE, x.fault());
        same("P26 used up", false, x.end(1));
        x.give(0, 0);
        same("P26 given, not set: the copy changes", 0, Checks.correct(x, 0, 0, 0, "xy"));
        x.minutes(1);
        x.machine(9, 0);
        x.give(5, 1);
        same("P26 a job of another part does not matter", 1, Checks.correct(x, 0, 0, 0, "zz"));
        refuses("P26 a wrong text, ahead of a job", ARGUMENT, () -> Checks.correct(x, 0, 0, 1, "z/"));
        same("P7 where", 1, x.fault());
        refuses("P26 a job of it, by another machine", STATE, () -> Checks.correct(x, 0, 0, 1, "yy"));
        same("P7 a right text", NONE, x.fault());
    }

    private static void jobsInTurn() {
        CountedRoom x = Rooms.pairs(9, 0, "ab cd ef gh", "ij kl");
        Rooms.castAll(x);
        x.pie(2);
        x.again(5, 0, 0);
        same("P26 a second job", 1, Checks.correct(x, 0, 2, 0, "xy"));
        x.minutes(1);
        same("P19 the first is not corrected", 0, x.slug(3, 7));
        same("P18 the second is next", 0, x.runs(0, 5));
        x.minutes(1);
        same("P19 the second is", 1, x.slug(4, 7));
        x.pie(0);
        Checks.correct(x, 0, 2, 0, "ef");
        x.again(5, 0, 0);
        same("P25 nothing is missing there", 1, x.runs(0, 0));
        x.pie(3);
        same("P25 now it is", 2, x.again(5, 0, 0));
        x.minutes(2);
        same("P19 now the first is", 1, x.slug(5, 7));
        same("P19 the second is not", 0, x.slug(6, 7));
    }

    private static void correctTexts() {
        String[] texts = {"", "  ", "ab cd", "ab/", "/", " ab ", "a-b", "ab-", "-ab", "ab  c", "abcdefghijklm", "a b-c",
            "ab /", "a?"};
        int[] faults = {0, 2, 3, 2, 0, NONE, NONE, 3, 0, 4, 12, 2, 3, 1};
        for (int i = 0; i < texts.length; i++) {
            CountedRoom x = Rooms.pairs(9, 0, "ab cd");
            String text = texts[i];
            if (faults[i] == NONE) {
                same("P26 '" + text + "'", 0, Checks.correct(x, 0, 0, 0, text));
            } else {
                refuses("P26 '" + text + "'", ARGUMENT, () -> Checks.correct(x, 0, 0, 0, text));
            }
            same("P7 of '" + text + "'", faults[i], x.fault());
        }
        CountedRoom x = Rooms.pairs(9, 0, Checks.many("a-b", 20, " "));
        refuses("P26 41 bits", ARGUMENT, () -> Checks.correct(x, 0, 3, 0, "a-b-c"));
        same("P7 the first letter of the 41st", 4, x.fault());
        same("P26 40 bits", 0, Checks.correct(x, 0, 3, 0, "c-d"));
        same("P26 39 bits", 0, Checks.correct(x, 0, 19, 0, "c"));
        same("P8 39", 39, x.part(0, 1));
        same("P26 40 again", 0, Checks.correct(x, 0, 0, 0, "a-b-c"));
        same("P8 40", 40, x.part(0, 1));
    }
}
