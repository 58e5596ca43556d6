/** Promises 13 to 22, and what 5 to 7 of promise 8: MACHINES, MINUTES, and the SLUGS they cast. */
public final class MachinesTest extends Checked {
    public static void main(String[] args) {
        machine();
        brass();
        brassThatIsOut();
        broken();
        give();
        thirtyJobs();
        minutes();
        castsAndWaits();
        backOfZeroAndNine();
        spikedWithoutBest();
        spikedWithoutBrasses();
        fewerThanAreOut();
        threeHundredSlugs();
        machinesByNumbers();
        runs();
        slug();
        says();
        longLines();
        lies();
        judge();
        rightInTheFace();
        copyAsItIsWhenSet();
        Checks.finish("MachinesTest");
    }

    private static void machine() {
        CountedRoom x = new CountedRoom();
        refuses("P13 -1 brasses", ARGUMENT, () -> x.machine(-1, 0));
        refuses("P13 41 brasses", ARGUMENT, () -> x.machine(41, 0));
        refuses("P13 back -1", ARGUMENT, () -> x.machine(1, -1));
        refuses("P13 back 10", ARGUMENT, () -> x.machine(1, 10));
        same("P13 none", 0, x.count(3));
        same("P13 the first", 0, x.machine(0, 0));
        same("P13 the second", 1, x.machine(40, 9));
        same("P13 the third", 2, x.machine(1, 1));
        same("P13 the fourth", 3, x.machine(1, 1));
        refuses("P13 a fifth", UNSUPPORTED, () -> x.machine(1, 1));
        refuses("P13 a wrong fifth", ARGUMENT, () -> x.machine(41, 1));
        same("P13 four", 4, x.count(3));
    }

    private static void brass() {
        CountedRoom x = new CountedRoom();
        x.machine(5, 2);
        same("P14 all are there", 7, x.brass(0, 0, 7));
        same("P14 of the hyphen", 40, x.brass(0, 26, 40));
        same("P14 none", 0, x.brass(0, 25, 0));
        refuses("P14 machine 1", INDEX, () -> x.brass(1, 0, 99));
        refuses("P14 machine -1", INDEX, () -> x.brass(-1, 0, 0));
        refuses("P14 sign 27", INDEX, () -> x.brass(0, 27, 99));
        refuses("P14 sign -1", INDEX, () -> x.brass(0, -1, 0));
        refuses("P14 41", ARGUMENT, () -> x.brass(0, 0, 41));
        refuses("P14 -1", ARGUMENT, () -> x.brass(0, 0, -1));
    }

    private static void brassThatIsOut() {
        CountedRoom x = Rooms.pairs(5, 2, "ab ab cd-e");
        x.give(0, 0);
        x.minutes(1);
        same("P14 two a are out", 3, x.brass(0, 0, 5));
        same("P14 two of two", 0, x.brass(0, 0, 2));
        same("P14 0 at least", 0, x.brass(0, 0, 1));
        same("P14 no c is out", 5, x.brass(0, 2, 5));
        x.minutes(1);
        same("P14 still out in the second minute", 3, x.brass(0, 0, 5));
        same("P14 a c is out", 4, x.brass(0, 2, 5));
        x.minutes(1);
        same("P14 they are back", 5, x.brass(0, 0, 5));
        same("P14 the c is not", 4, x.brass(0, 2, 5));
        x.minutes(1);
        same("P14 all are back", 5, x.brass(0, 2, 5));
        CountedRoom y = Rooms.pairs(9, 1, "abcd-ab cd");
        y.give(0, 0);
        y.minutes(1);
        same("P14 a hyphen is out", 8, y.brass(0, 26, 9));
        CountedRoom z = Rooms.pairs(9, 0, "ab ab");
        z.give(0, 0);
        z.minutes(1);
        same("P14 back 0: nothing is out", 9, z.brass(0, 0, 9));
        CountedRoom w = Rooms.pairs(9, 3, "ab ab");
        w.machine(9, 3);
        w.give(0, 1);
        w.minutes(1);
        w.slip(0, 0, 25);
        same("P14 of another machine", 9, w.brass(0, 0, 9));
        same("P14 what was cast counts, not what is told", 7, w.brass(1, 0, 9));
        w.pie(0);
        same("P14 also if it is pied", 7, w.brass(1, 0, 9));
    }

    private static void broken() {
        CountedRoom x = Rooms.pairs(9, 0, "ab ab");
        same("P15 it was not", false, x.broken(0, false));
        same("P15 it is now", true, x.broken(0, true));
        same("P15 it was", false, x.broken(0, true));
        x.give(0, 0);
        x.minutes(3);
        same("P15 it does nothing", 0, x.count(4));
        same("P15 nor does it wait", 0, x.runs(0, 2));
        same("P15 its part is not set", NONE, x.part(0, 5));
        same("P15 mended", true, x.broken(0, false));
        x.minutes(1);
        same("P15 it casts", 1, x.count(4));
        refuses("P15 machine 1", INDEX, () -> x.broken(1, true));
        refuses("P15 machine -1", INDEX, () -> x.broken(-1, false));
    }

    private static void give() {
        CountedRoom x = Rooms.pairs(9, 0, "ab / cd / ef");
        x.machine(9, 0);
        same("P16 one job", 1, x.give(0, 0));
        same("P16 another one", 2, x.give(2, 0));
        same("P16 it was given", NONE, x.give(0, 0));
        same("P16 also to another machine", NONE, x.give(0, 1));
        same("P16 nothing happened", 0, x.runs(1, 0));
        same("P16 to another one", 1, x.give(1, 1));
        same("P8 it was given", 1, x.part(1, 4));
        refuses("P16 part 3", INDEX, () -> x.give(3, 0));
        refuses("P16 part -1", INDEX, () -> x.give(-1, 0));
        refuses("P16 machine 2", INDEX, () -> x.give(0, 2));
        refuses("P16 machine -1", INDEX, () -> x.give(0, -1));
        x.minutes(5);
        same("P16 given for good", NONE, x.give(0, 0));
    }

    private static void thirtyJobs() {
        CountedRoom x = Rooms.pairs(9, 0);
        for (int i = 0; i < 7; i++) {
            Checks.story(x, 0, 0, "a/b/c/d/e");
        }
        x.machine(9, 0);
        for (int i = 0; i < 30; i++) {
            same("P16 jobs", i + 1, x.give(i, 0));
        }
        refuses("P16 a 31st", UNSUPPORTED, () -> x.give(30, 0));
        refuses("P16 also one that was given", UNSUPPORTED, () -> x.give(0, 0));
        same("P8 it was not given", 0, x.part(30, 4));
        same("P16 the other queue has room", 1, x.give(30, 1));
        refuses("P16 no part, ahead of that", INDEX, () -> x.give(35, 0));
        x.minutes(1);
        same("P16 room again", 30, x.give(31, 0));
        same("P48 jobs in all queues", 30, x.count(12));
    }

    private static void minutes() {
        CountedRoom x = new CountedRoom();
        same("P17 none", 0, x.minutes(0));
        same("P17 one", 1, x.minutes(1));
        refuses("P17 -1", ARGUMENT, () -> x.minutes(-1));
        refuses("P17 121", ARGUMENT, () -> x.minutes(121));
        for (int i = 1; i <= 4; i++) {
            same("P17 so many", 1 + 120 * i, x.minutes(120));
        }
        same("P17 as far as it may go", 600, x.minutes(120));
        same("P17 no further", 600, x.minutes(1));
        same("P48 now", 600, x.count(0));
    }

    private static void castsAndWaits() {
        CountedRoom x = Rooms.pairs(2, 1, "ab ab ab ab");
        x.give(0, 0);
        same("P17 now", 1, x.minutes(1));
        same("P8 it is set", 2, x.part(0, 5));
        same("P17 and cast in the same minute", 1, x.count(4));
        x.minutes(1);
        same("P17 it waits", 1, x.runs(0, 2));
        same("P17 nothing cast", 1, x.count(4));
        same("P18 the job is there", 1, x.runs(0, 0));
        x.minutes(1);
        same("P17 cast when they are back", 2, x.count(4));
        same("P19 its minute", 3, x.slug(1, 2));
        same("P18 the job is away", 0, x.runs(0, 0));
        x.minutes(5);
        same("P18 no job, no waiting", 1, x.runs(0, 2));
        same("P18 lines cast", 2, x.runs(0, 1));
        CountedRoom y = Rooms.pairs(3, 2, "ab ab ab ab ab ab");
        y.give(0, 0);
        y.minutes(9);
        same("P19 minute of the first", 1, y.slug(0, 2));
        same("P19 minute of the second", 4, y.slug(1, 2));
        same("P19 minute of the third", 7, y.slug(2, 2));
        same("P18 four waits", 4, y.runs(0, 2));
    }

    private static void backOfZeroAndNine() {
        CountedRoom x = Rooms.pairs(2, 0, "ab ab ab ab");
        x.give(0, 0);
        x.minutes(2);
        same("P17 back 0 never waits", 2, x.count(4));
        CountedRoom y = Rooms.pairs(2, 9, "ab ab ab ab");
        y.give(0, 0);
        y.minutes(10);
        same("P17 back 9 waits", 1, y.count(4));
        same("P18 nine minutes", 9, y.runs(0, 2));
        y.minutes(1);
        same("P17 then it casts", 11, y.slug(1, 2));
    }

    private static void spikedWithoutBest() {
        CountedRoom x = Rooms.pairs(9, 0, "abcdef", "ab cd ef gh ij abcdef kl", "ab");
        x.give(0, 0);
        x.give(5, 0);
        x.give(10, 0);
        x.minutes(1);
        same("P17 spiked", 1, x.runs(0, 3));
        same("P17 that was its minute", 0, x.count(4));
        same("P8 it is not set", NONE, x.part(0, 5));
        same("P8 it was given", 1, x.part(0, 4));
        same("P16 and can not be again", NONE, x.give(0, 0));
        same("P18 two jobs", 2, x.runs(0, 0));
        x.minutes(1);
        same("P17 the next one, too", 2, x.runs(0, 3));
        x.minutes(1);
        same("P17 the last one is cast", 1, x.count(4));
        same("P18 no wait", 0, x.runs(0, 2));
    }

    private static void spikedWithoutBrasses() {
        CountedRoom x = Rooms.pairs(1, 0, "ab cd ab ab ef gh", "ab");
        x.give(0, 0);
        x.give(5, 0);
        x.minutes(1);
        same("P17 the first line", 1, x.count(4));
        x.minutes(1);
        same("P17 the second needs two a", 1, x.runs(0, 3));
        same("P8 it is set nevertheless", 3, x.part(0, 5));
        same("P21 its second place is empty", NONE, x.lies(0, 1));
        x.minutes(1);
        same("P17 the next job", 5, x.slug(1, 0));
        same("P18 lines cast", 2, x.runs(0, 1));
        CountedRoom y = Rooms.pairs(9, 0, "abcd-ab cd");
        y.brass(0, 26, 0);
        y.give(0, 0);
        y.minutes(1);
        same("P17 a - is needed, too", 1, y.runs(0, 3));
    }

    private static void fewerThanAreOut() {
        CountedRoom x = Rooms.pairs(9, 2, "ab ab cd cd", "ab");
        x.give(0, 0);
        x.minutes(1);
        x.brass(0, 0, 1);
        x.minutes(1);
        same("P17 a line that needs no a does not wait for one", 2, x.count(4));
        x.give(5, 0);
        x.minutes(1);
        same("P17 one that needs an a waits", 1, x.runs(0, 2));
        x.minutes(1);
        same("P17 till they are back", 3, x.count(4));
    }

    private static void threeHundredSlugs() {
        CountedRoom x = Rooms.singles();
        String part = Checks.many("aa", 24, " ");
        for (int i = 0; i < 3; i++) {
            Checks.story(x, 0, 0, Checks.many(part, 5, "/"));
            x.machine(40, 0);
            for (int k = 0; k < 5; k++) {
                x.give(5 * i + k, i);
            }
        }
        x.minutes(100);
        same("P17 300 slugs", 300, x.count(4));
        same("P18 no wait", 0, x.runs(0, 2));
        x.minutes(20);
        same("P17 no more", 300, x.count(4));
        same("P18 each waits", 20, x.runs(2, 2));
        same("P18 no spike", 0, x.runs(2, 3));
        same("P8 a part is set", 24, x.part(4, 5));
        x.brass(0, 0, 1);
        x.minutes(1);
        same("P17 that it needs more comes first", 1, x.runs(0, 3));
    }

    private static void machinesByNumbers() {
        CountedRoom x = Rooms.pairs(9, 0, "ab", "cd");
        x.machine(9, 0);
        x.give(0, 1);
        x.give(5, 0);
        x.minutes(1);
        same("P17 machine 0 is first", 5, x.slug(0, 0));
        same("P17 then machine 1", 0, x.slug(1, 0));
        same("P19 its machine", 1, x.slug(1, 1));
        CountedRoom y = Rooms.pairs(2, 5, "ab", "ab", "ab");
        y.machine(2, 5);
        y.give(0, 0);
        y.give(5, 1);
        y.minutes(1);
        same("P17 the brasses of another one are not less", 2, y.count(4));
    }

    private static void runs() {
        CountedRoom x = Rooms.pairs(9, 0, "ab cd ef", "ab");
        int[] fresh = {0, 0, 0, 0, 0, NONE};
        for (int what = 0; what < 6; what++) {
            same("P18 at first " + what, fresh[what], x.runs(0, what));
        }
        x.give(5, 0);
        x.give(0, 0);
        same("P18 the part of its first job", 5, x.runs(0, 5));
        x.minutes(1);
        same("P18 then the other one", 0, x.runs(0, 5));
        x.broken(0, true);
        same("P18 broken", 1, x.runs(0, 4));
        refuses("P18 machine 1", INDEX, () -> x.runs(1, 9));
        refuses("P18 machine -1", INDEX, () -> x.runs(-1, 0));
        refuses("P18 what 6", NO_ELEMENT, () -> x.runs(0, 6));
        refuses("P18 what -1", NO_ELEMENT, () -> x.runs(0, -1));
    }

    private static void slug() {
        CountedRoom x = Rooms.pairs(9, 0, "ab", "abcd-ab cd ef");
        x.minutes(3);
        x.machine(9, 0);
        x.give(5, 1);
        x.minutes(3);
        int[] first = {5, 1, 4, 5, 0, 0, 5, 0, 0, 0};
        int[] second = {5, 1, 5, 4, 0, 1, 5, 0, 0, 1};
        int[] third = {5, 1, 6, 2, 0, 2, 5, 0, 0, 2};
        for (int what = 0; what < 10; what++) {
            same("P19 slug(0, " + what + ")", first[what], x.slug(0, what));
            same("P19 slug(1, " + what + ")", second[what], x.slug(1, what));
            same("P19 slug(2, " + what + ")", third[what], x.slug(2, what));
        }
        x.pie(1);
        int[] pied = {5, 1, 5, 4, 1, NONE, NONE, 0, 0, 1};
        for (int what = 0; what < 10; what++) {
            same("P19 of a pied one " + what, pied[what], x.slug(1, what));
        }
        refuses("P19 slug 3", INDEX, () -> x.slug(3, 99));
        refuses("P19 slug -1", INDEX, () -> x.slug(-1, 0));
        refuses("P19 what 10", NO_ELEMENT, () -> x.slug(0, 10));
        refuses("P19 what -1", NO_ELEMENT, () -> x.slug(0, -1));
    }

    private static void says() {
        CountedRoom x = Rooms.pairs(9, 0, "abcd-ab   cd ef");
        x.give(0, 0);
        x.minutes(3);
        same("P20 parted", "abcd-", Checks.said(x, 0));
        same("P20 one blank for a gap", "ab cd", Checks.said(x, 1));
        same("P20 the last one", "ef", Checks.said(x, 2));
        same("P20 byte 5", NONE, x.says(0, 5));
        same("P20 byte -1", NONE, x.says(0, -1));
        same("P20 byte MAX", NONE, x.says(0, Integer.MAX_VALUE));
        same("P20 the hyphen", 45, x.says(0, 4));
        refuses("P20 slug 3", INDEX, () -> x.says(3, 0));
        refuses("P20 slug -1", INDEX, () -> x.says(-1, 0));
        CountedRoom y = Rooms.pairs(40, 0, "a-b-c-d e");
        Checks.style(y, 0, "measure 400; space 1 1");
        y.give(0, 0);
        y.minutes(1);
        same("P20 no hyphen within a line", "abcd e", Checks.said(y, 0));
        CountedRoom z = new CountedRoom();
        z.width(0, 0, 1);
        Checks.style(z, 0, "measure 400; space 1 1");
        String longest = Checks.many("aaaaaaaaaaaa", 30, "-");
        Checks.story(z, 0, 0, longest);
        z.machine(40, 0);
        z.brass(0, 0, 40);
        z.give(0, 0);
        z.minutes(1);
        same("P17 360 letters need too many", 1, z.runs(0, 3));
    }

    private static void longLines() {
        CountedRoom x = new CountedRoom();
        for (int sign = 0; sign < 27; sign++) {
            x.width(0, sign, 1);
        }
        Checks.style(x, 0, "measure 200; space 1 40");
        String text = Checks.many("abcdefghijkl mnopqrstuvwx", 5, " ");
        Checks.story(x, 0, 0, "ab / " + text + " / " + Checks.many("abcdefgh", 4, " "));
        x.machine(40, 0);
        Rooms.castAll(x);
        same("P20 a short one", "ab", Checks.said(x, 0));
        same("P20 129 bytes", text, Checks.said(x, 1));
        same("P20 35 bytes", "abcdefgh abcdefgh abcdefgh abcdefgh", Checks.said(x, 2));
        same("P19 its letters", 120, x.slug(1, 3));
        same("P22 right", NONE, x.judge(1));
        same("P27 the last letter", true, x.slip(1, 119, 0));
        same("P22 not right", 0, x.judge(1));
        x.image();
        x.slip(1, 119, 23);
        x.back();
        same("P47 wrong again", 1, x.slug(1, 8));
        same("P20 its last byte", 'a', x.says(1, 128));
    }

    private static void lies() {
        CountedRoom x = Rooms.pairs(9, 0, "ab cd ef", "ab");
        refuses("P21 part 1", INDEX, () -> x.lies(1, 0));
        refuses("P21 part -1", INDEX, () -> x.lies(-1, 0));
        refuses("P21 not set", STATE, () -> x.lies(0, 0));
        x.give(0, 0);
        x.minutes(1);
        same("P21 the first place", 0, x.lies(0, 0));
        same("P21 the second one is empty", NONE, x.lies(0, 1));
        refuses("P21 no third one", INDEX, () -> x.lies(0, 2));
        refuses("P21 place -1", INDEX, () -> x.lies(0, -1));
        refuses("P21 part 5 is not set", STATE, () -> x.lies(5, 0));
        x.minutes(1);
        same("P21 cast", 1, x.lies(0, 1));
        x.pie(0);
        same("P21 pied", NONE, x.lies(0, 0));
    }

    private static void judge() {
        CountedRoom x = Rooms.pairs(9, 0, "ab cd ef gh ij", "kl");
        refuses("P22 not set", STATE, () -> x.judge(0));
        refuses("P22 no part", INDEX, () -> x.judge(7));
        x.give(0, 0);
        x.minutes(1);
        same("P22 the second is empty", 1, x.judge(0));
        same("P8 one is right", 1, x.part(0, 6));
        x.minutes(2);
        same("P22 all are right", NONE, x.judge(0));
        same("P8 three are right", 3, x.part(0, 6));
        x.slip(1, 0, 25);
        same("P22 a wrong one", 1, x.judge(0));
        same("P8 two are right", 2, x.part(0, 6));
        x.change(0, 1);
        same("P22 a changed one", 0, x.judge(0));
        same("P8 one is right", 1, x.part(0, 6));
        x.slip(1, 0, 4);
        x.change(1, 0);
        same("P22 right again", NONE, x.judge(0));
        x.pie(2);
        same("P22 a pied one", 2, x.judge(0));
        same("P8 one went", 1, x.part(0, 7));
    }

    private static void rightInTheFace() {
        CountedRoom x = Rooms.pairs(9, 0);
        Checks.story(x, 0, 0, "ab");
        Checks.story(x, 1, 0, "ab");
        Checks.story(x, 0, 0, "ab");
        Rooms.castAll(x);
        same("P22 right", NONE, x.judge(5));
        x.change(0, 1);
        same("P22 says the same in another face", 0, x.judge(0));
        same("P22 also there", 0, x.judge(5));
        same("P8 not right", 0, x.part(5, 6));
        x.change(0, 1);
        x.change(0, 2);
        same("P22 another part's in the same face", NONE, x.judge(0));
        same("P22 and there", NONE, x.judge(10));
    }

    private static void copyAsItIsWhenSet() {
        CountedRoom x = Rooms.pairs(9, 0, "ab cd", "ef");
        x.give(5, 0);
        x.give(0, 0);
        x.minutes(1);
        Checks.correct(x, 0, 1, 0, "gh");
        x.minutes(1);
        same("P17 the copy that it has then", "ab gh", Checks.said(x, 1));
        CountedRoom y = Rooms.pairs(9, 0, "ab cd ef gh");
        Checks.style(y, 1, "measure 200");
        y.give(0, 0);
        same("P10 now", 2, y.best(0, 0));
        y.minutes(1);
        same("P17 by the style of the minute that comes", 1, y.part(0, 5));
    }
}
