/** Promises 43 to 48: ROWS, TORN numbers, CHECK, THE IMAGE, and what is counted. */
public final class ImageTest extends Checked {
    public static void main(String[] args) {
        rows();
        eightRows();
        tear();
        check();
        backWithoutImage();
        imageOfAll();
        newThingsAfterBack();
        smallThingsAreKept();
        tapeAndFaultStay();
        imageStays();
        count();
        readme();
        Checks.finish("ImageTest");
    }

    private static void rows() {
        CountedRoom x = Rooms.singles("aa bb", "cc dd dd");
        x.machine(40, 0);
        x.machine(40, 0);
        refuses("P43 no row at minute 0", NO_ELEMENT, () -> x.row(0, 0));
        x.minutes(1);
        same("P43 nothing was cast", NONE, x.row(0, 0));
        x.give(0, 1);
        x.give(5, 0);
        x.minutes(2);
        int[][] due = {{NONE, NONE, NONE, NONE}, {0, 1, NONE, NONE}, {2, 3, NONE, NONE}};
        for (int i = 0; i < 3; i++) {
            for (int machine = 0; machine < 4; machine++) {
                same("P43 row " + i + " machine " + machine, due[i][machine], x.row(i, machine));
            }
        }
        refuses("P43 row 3", NO_ELEMENT, () -> x.row(3, 0));
        refuses("P43 row -1", NO_ELEMENT, () -> x.row(-1, 0));
        refuses("P43 machine 4", NO_ELEMENT, () -> x.row(0, 4));
        refuses("P43 machine -1", NO_ELEMENT, () -> x.row(0, -1));
        same("P48 rows", 3, x.count(14));
        x.pie(0);
        same("P43 also a pied one", 0, x.row(1, 0));
    }

    private static void eightRows() {
        CountedRoom x = Rooms.singles(Checks.many("aa", 12, " "));
        x.machine(40, 0);
        x.give(0, 0);
        x.minutes(8);
        same("P43 the oldest of eight", 0, x.row(0, 0));
        same("P43 the latest of eight", 7, x.row(7, 0));
        x.minutes(3);
        same("P48 eight rows", 8, x.count(14));
        for (int i = 0; i < 8; i++) {
            same("P43 the latest eight", 3 + i, x.row(i, 0));
        }
        refuses("P43 row 8", NO_ELEMENT, () -> x.row(8, 0));
        x.broken(0, true);
        x.minutes(1);
        same("P43 nothing in the latest", NONE, x.row(7, 0));
        same("P43 the one ahead", 10, x.row(6, 0));
    }

    private static void tear() {
        CountedRoom x = Rooms.singles(Checks.many("aa", 12, " "));
        x.machine(40, 0);
        x.give(0, 0);
        x.minutes(6);
        same("P44 5 and 3", 6, x.tear(5, 0, 3));
        same("P43 it is that", 6, x.row(5, 0));
        same("P44 back", 5, x.tear(5, 0, 3));
        same("P44 none of a machine that is not there", -1 ^ 8, x.tear(0, 3, 8));
        same("P44 all bits", 4 ^ -1, x.tear(4, 0, -1));
        same("P44 with 0", ~4, x.tear(4, 0, 0));
        refuses("P44 row 6", NO_ELEMENT, () -> x.tear(6, 0, 1));
        refuses("P44 row -1", NO_ELEMENT, () -> x.tear(-1, 0, 1));
        refuses("P44 machine 4", NO_ELEMENT, () -> x.tear(0, 4, 1));
        refuses("P44 machine -1", NO_ELEMENT, () -> x.tear(0, -1, 1));
        same("P21 the slugs are as they were", 4, x.lies(0, 4));
    }

    private static void check() {
        CountedRoom x = Rooms.singles(Checks.many("aa", 12, " "));
        same("P45 no rows", NONE, x.check());
        x.machine(40, 0);
        x.give(0, 0);
        x.minutes(6);
        same("P45 all are right", NONE, x.check());
        x.tear(4, 0, 1);
        same("P45 row 4, machine 0", 16, x.check());
        x.tear(3, 3, 1 << 31);
        same("P45 row 3, machine 3", 15, x.check());
        x.tear(3, 2, 0);
        same("P45 a mask of 0 tears nothing", 15, x.check());
        x.tear(0, 0, 64);
        same("P45 row 0", 0, x.check());
        x.minutes(2);
        same("P45 eight rows", 0, x.check());
        x.minutes(1);
        same("P45 row 0 is gone", 11, x.check());
        x.minutes(3);
        same("P45 row 3 is the oldest but one away", 0, x.row(0, 3) == (NONE ^ 1 << 31) ? 1 : 0);
        same("P45 row 4 is the oldest", 0, x.check());
        x.tear(0, 0, 1);
        same("P45 made right again", NONE, x.check());
    }

    private static void backWithoutImage() {
        CountedRoom x = Rooms.singles("aa");
        same("P47 none was kept", false, x.back());
        same("P47 nothing happens", 1, x.count(1));
        x.image();
        same("P47 one was kept", true, x.back());
    }

    /** A room in which there is something of all. */
    private static void full(CountedRoom x) {
        Rooms.singles(x, "aa bb cc / dd", "ee ff");
        Checks.story(x, 1, 30, "ef gh ij");
        x.machine(8, 1);
        x.machine(30, 0);
        Checks.style(x, 3, "measure 10; space 1 40; pay 12; close 0 at 2; fat 3");
        x.give(0, 0);
        x.give(5, 0);
        x.give(10, 1);
        x.minutes(9);
        x.lock(0, 2);
        x.edition();
        x.pie(1);
        x.slip(0, 0, 7);
        x.change(0, 2);
        x.read(0, 0);
        x.read(1, 4);
        x.carry(0, 4, 2);
        x.again(10, 0, 1);
        Checks.correct(x, 5, 1, 0, "gg");
        x.tear(3, 1, 5);
        x.page(3, 2, 30);
        x.broken(0, true);
    }

    private static void changeAll(CountedRoom x) {
        Checks.style(x, x.count(0), "measure 99; pay 77; fat 9; close 0 at 0");
        x.width(0, 0, 1);
        x.width(1, 5, 20);
        Checks.story(x, 0, 5, "zz yy");
        x.machine(1, 1);
        x.broken(0, false);
        x.brass(1, 3, 2);
        x.give(1, 1);
        x.minutes(30);
        x.pie(0);
        x.change(2, 3);
        x.slip(3, 1, 9);
        x.read(1, 3);
        x.carry(3, 3, 10);
        x.again(5, 0, 1);
        Checks.correct(x, 5, 0, 1, "e-f");
        x.lock(1, 2);
        x.page(0, 3, 3);
        x.edition();
        x.tear(0, 0, 1);
    }

    /** All that can be asked of rooms made by one Scene is as it is of rooms made by another one. */
    private static void sameWhole(String what, Scene due, Scene got) {
        same(what, "", Whole.difference(Whole.of(due), Whole.of(got)));
    }

    private static void imageOfAll() {
        Scene full = ImageTest::full;
        Scene kept = full.then(x -> x.image());
        Scene changed = kept.then(ImageTest::changeAll);
        Scene gone = changed.then(x -> x.back());
        sameWhole("P46 it changes nothing", full, kept);
        same("P46 then all is otherwise", false, Whole.difference(Whole.of(full), Whole.of(changed)).isEmpty());
        sameWhole("P47 all is as it was", full, gone);
        sameWhole("P47 it goes on as it did", full.then(ImageTest::changeAll), gone.then(ImageTest::changeAll));
        sameWhole("P47 back again", full, gone.then(ImageTest::changeAll).then(x -> x.back()));
        Scene nothing = x -> x.image();
        Scene some = x -> {
            Checks.story(x, 0, 0, "ab");
            x.machine(3, 3);
            x.minutes(5);
            x.back();
        };
        sameWhole("P47 back to nothing", nothing, nothing.then(some));
        CountedRoom z = new CountedRoom();
        nothing.then(some).play(z);
        refuses("P47 no part", INDEX, () -> z.part(0, 0));
        Checks.story(z, 1, 0, "a-b c");
        same("P8 another part 0", 2, z.part(0, 0));
        same("P8 not given", 0, z.part(0, 4));
    }

    /** After one went back, what comes anew has nothing of what was there. */
    private static void newThingsAfterBack() {
        CountedRoom x = new CountedRoom();
        x.image();
        Checks.style(x, 0, "measure 10; space 1 40; pay 5; close 0 at 0");
        for (int sign = 0; sign < 27; sign++) {
            x.width(0, sign, 5);
        }
        Checks.story(x, 1, 5, "a-b c / d");
        Checks.story(x, 0, 5, "aa bb cc aaa");
        Checks.story(x, 0, 5, "aa bb cc");
        Checks.story(x, 0, 5, "aa aa");
        x.machine(2, 9);
        x.machine(2, 9);
        x.give(5, 0);
        x.give(10, 1);
        x.give(0, 0);
        x.give(15, 0);
        x.minutes(12);
        same("P18 it waited", 9, x.runs(0, 2));
        same("P18 two were spiked", 2, x.runs(0, 3));
        same("P18 one was cast", 1, x.runs(0, 1));
        x.give(1, 0);
        x.broken(0, true);
        x.slip(0, 0, 5);
        x.read(0, 0);
        x.read(1, 0);
        x.pie(0);
        x.pie(1);
        x.carry(0, 1, 3);
        x.again(10, 0, 1);
        x.lock(0, 4);
        x.edition();
        x.ahead(NONE);
        x.back();
        for (int what = 0; what < 15; what++) {
            same("P47 count(" + what + ")", 0, x.count(what));
        }
        Checks.style(x, 0, "measure 20; space 2 6");
        Checks.story(x, 0, 9, "gh ij kl");
        x.machine(40, 0);
        int[] part = {3, 3, 0, 9, 0, NONE, 0, 0};
        for (int what = 0; what < 8; what++) {
            same("P8 a new part " + what, part[what], x.part(0, what));
        }
        refuses("P21 it is not set", STATE, () -> x.lies(0, 0));
        refuses("P5 one part alone", INDEX, () -> x.part(1, 0));
        int[] machine = {0, 0, 0, 0, 0, NONE};
        for (int what = 0; what < 6; what++) {
            same("P18 a new machine " + what, machine[what], x.runs(0, what));
        }
        same("P16 given", 1, x.give(0, 0));
        x.minutes(2);
        int[] slug = {0, 0, 1, 4, 0, 0, 0, 0, 0, 0};
        for (int what = 0; what < 10; what++) {
            same("P19 a new slug " + what, slug[what], x.slug(0, what));
        }
        same("P20 it says", "gh ij", Checks.said(x, 0));
        same("P29 not marked", 0, x.proof(0) + x.proof(1) + x.proof(2));
        same("P31 not told of", NONE, x.where(0, 600, 600));
        same("P28 read", true, x.read(1, 0));
        same("P22 right", NONE, x.judge(0));
        same("P36 no page", 0, x.locked(0, 0));
        same("P42 no pay", 0, x.pay(0, 0, 600));
        same("P35 locked", 2, x.lock(0, 1));
        same("P36 not late", 0, x.locked(0, 2));
        same("P38 the first edition", 0, x.edition());
        same("P37 of the new slugs", 1, x.stands(0, 0, 1));
    }

    /** What a MACHINE, a PART that is not SET, and a PAGE have is kept, too. */
    private static void smallThingsAreKept() {
        Scene before = x -> {
            Rooms.singles(x, "aa aa aa", "aaa", "bbb", "cc dd", "ee-ff");
            Checks.style(x, 0, "measure 10; space 1 40; close 1 at 1");
            x.machine(2, 1);
            x.give(5, 0);
            x.give(0, 0);
            x.give(15, 0);
            x.minutes(5);
            same("P18 waited", 2, x.runs(0, 2));
            same("P18 spiked", 1, x.runs(0, 3));
            x.minutes(2);
            x.lock(1, 1);
            same("P36 late", 6, x.locked(1, 2));
            x.carry(0, 3, 2);
        };
        Scene after = before.then(x -> {
            x.image();
            x.give(10, 0);
            Checks.correct(x, 20, 0, 0, "gg-hh-ii");
            x.minutes(5);
            x.pie(0);
            x.again(0, 0, 0);
            x.minutes(4);
            x.lock(1, 8);
            x.carry(0, 4, 2);
            x.carry(1, 4, 16);
            same("P18 spiked once more", 2, x.runs(0, 3));
            same("P36 another late", 15, x.locked(1, 2));
            x.back();
            same("P36 locked at", 7, x.locked(1, 1));
            same("P8 pieces", 2, x.part(20, 1));
            same("P31 told", 3, x.where(0, 600, 600));
        });
        sameWhole("P47 all is as it was", before, after);
    }

    private static void tapeAndFaultStay() {
        CountedRoom x = new CountedRoom();
        Checks.tell(x, "ab");
        x.image();
        Checks.tell(x, "");
        Checks.tell(x, "abc?");
        refuses("P5 wrong", ARGUMENT, () -> x.story(0, 0));
        same("P7 at 3", 3, x.fault());
        Checks.tell(x, "xy z");
        x.back();
        same("P47 the fault stays", 3, x.fault());
        same("P47 the tape stays", true, x.end(4));
        same("P5 its text", 0, x.story(0, 0));
        same("P8 two words", 2, x.part(0, 0));
        x.back();
        same("P47 the fault stays none", NONE, x.fault());
        same("P47 the tape stays used up", false, x.end(1));
    }

    private static void imageStays() {
        CountedRoom x = new CountedRoom();
        x.minutes(3);
        x.image();
        x.minutes(3);
        x.image();
        x.minutes(3);
        same("P47 the latest image", true, x.back());
        same("P48 minute 6", 6, x.count(0));
        x.minutes(4);
        same("P47 it stays", true, x.back());
        same("P48 minute 6 again", 6, x.count(0));
    }

    private static void count() {
        CountedRoom x = new CountedRoom();
        full(x);
        int[] due = {9, 3, 5, 2, 8, 6, 1, 1, 0, 1, 1, 1, 2, 2, 8};
        for (int what = 0; what < due.length; what++) {
            same("P48 count(" + what + ")", due[what], x.count(what));
        }
        same("P48 another what", NONE, x.count(15));
        same("P48 what -1", NONE, x.count(-1));
        same("P48 what MAX", NONE, x.count(Integer.MAX_VALUE));
        x.broken(0, false);
        x.minutes(1);
        int[] then = {10, 3, 5, 2, 10, 8, 1, 1, 1, 1, 1, 1, 0, 2, 8};
        for (int what = 0; what < then.length; what++) {
            same("P48 then count(" + what + ")", then[what], x.count(what));
        }
    }

    /** What README.md shows. */
    private static void readme() {
        LeadRoom room = new LeadRoom();
        room.feed(0x61622063, 0x64000000, 0, 0, 0);
        room.end(5);
        int story = room.story(0, 30);
        int machine = room.machine(10, 2);
        room.give(5 * story, machine);
        room.minutes(1);
        same("README", 97, room.says(0, 0));
    }
}
