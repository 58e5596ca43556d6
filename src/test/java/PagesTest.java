/** Promises 32 to 39: PAGES, their BEST FIT, LOCKED and LATE, EDITIONS and what was CHANGED. */
public final class PagesTest extends Checked {
    public static void main(String[] args) {
        page();
        fitOfOneColumn();
        fitOfTwoColumns();
        fitTies();
        fitNone();
        fitOfFour();
        fitRefuses();
        otherStoriesNotSet();
        fullPage();
        fits();
        lock();
        lockByColumns();
        lockOfPartsKept();
        lockNotRight();
        late();
        locked();
        editions();
        eightEditions();
        changed();
        Checks.finish("PagesTest");
    }

    /** A room in which so many STORIES are cast; each WORD is a LINE. */
    private static CountedRoom cast(String... copies) {
        CountedRoom x = Rooms.singles(copies);
        x.machine(40, 0);
        Rooms.castAll(x);
        return x;
    }

    private static void page() {
        CountedRoom x = new CountedRoom();
        x.page(5, 3, 60);
        same("P36 columns", 3, x.locked(5, 3));
        same("P36 long", 60, x.locked(5, 4));
        x.page(0, 1, 1);
        same("P36 long 1", 1, x.locked(0, 4));
        same("P36 another page stays", 20, x.locked(1, 4));
        refuses("P32 page 6", INDEX, () -> x.page(6, 9, 99));
        refuses("P32 page -1", INDEX, () -> x.page(-1, 1, 1));
        refuses("P32 no column", ARGUMENT, () -> x.page(0, 0, 1));
        refuses("P32 four columns", ARGUMENT, () -> x.page(0, 4, 1));
        refuses("P32 0 long", ARGUMENT, () -> x.page(0, 1, 0));
        refuses("P32 61 long", ARGUMENT, () -> x.page(0, 1, 61));
        same("P32 nothing happened", 1, x.locked(0, 3));
        CountedRoom y = cast("aa bb");
        y.lock(0, 1);
        y.page(0, 2, 1);
        same("P32 what it has stays", 2, y.locked(0, 0));
    }

    private static void fitOfOneColumn() {
        // story 0 has parts of 2 and 1 lines, story 1 of 3 and 2
        CountedRoom x = cast("aa bb / cc", "dd ee ff / gg hh");
        int[] longs = {4, 5, 6, 7, 8, 60};
        int[] lines = {NONE, 5, 6, 7, 8, 8};
        int[] firstKeeps = {NONE, 1, 2, 1, 2, 2};
        int[] secondKeeps = {NONE, 1, 1, 2, 2, 2};
        for (int i = 0; i < longs.length; i++) {
            x.page(0, 1, longs[i]);
            same("P33 lines of " + longs[i], lines[i], x.fit(0, 3));
            same("P34 the first keeps of " + longs[i], firstKeeps[i], x.fits(0, 3, 0, true));
            same("P34 the second keeps of " + longs[i], secondKeeps[i], x.fits(0, 3, 1, true));
            same("P34 its column", i == 0 ? NONE : 0, x.fits(0, 3, 1, false));
        }
        x.page(0, 1, 2);
        same("P33 story 0 alone", 2, x.fit(0, 1));
        same("P33 story 1 alone", NONE, x.fit(0, 2));
        same("P33 of another page", 5, x.fit(1, 2));
    }

    private static void fitOfTwoColumns() {
        CountedRoom x = cast("aa bb / cc", "dd ee ff / gg hh");
        x.page(0, 2, 5);
        same("P33 all", 8, x.fit(0, 3));
        same("P34 column of the first", 0, x.fits(0, 3, 0, false));
        same("P34 column of the second", 1, x.fits(0, 3, 1, false));
        x.page(0, 2, 8);
        same("P33 all in one", 8, x.fit(0, 3));
        same("P34 the least column", 0, x.fits(0, 3, 0, false));
        same("P34 of both", 0, x.fits(0, 3, 1, false));
        x.page(0, 2, 3);
        same("P33 3 and 3", 6, x.fit(0, 3));
        x.page(0, 2, 2);
        same("P33 the second's first part is too long", NONE, x.fit(0, 3));
    }

    private static void fitTies() {
        CountedRoom x = cast("aa / bb", "cc / dd", "ee / ff");
        x.page(0, 1, 3);
        same("P33 three", 3, x.fit(0, 3));
        same("P34 the first keeps the most", 2, x.fits(0, 3, 0, true));
        same("P34 the second keeps one", 1, x.fits(0, 3, 1, true));
        x.page(0, 1, 5);
        same("P34 the second keeps the most, too", 2, x.fits(0, 7, 1, true));
        same("P34 the third keeps one", 1, x.fits(0, 7, 2, true));
        x.page(0, 3, 3);
        same("P33 all six", 6, x.fit(0, 7));
        // 0 0 0 has 3 lines, 0 0 1 has 3 and 2, 0 1 0 alike; 0 1 2 has 6
        same("P34 columns", 0, x.fits(0, 7, 0, false));
        same("P34 columns", 1, x.fits(0, 7, 1, false));
        same("P34 columns", 2, x.fits(0, 7, 2, false));
        x.page(0, 3, 4);
        same("P33 all six", 6, x.fit(0, 7));
        same("P34 the second's column is least", 0, x.fits(0, 7, 1, false));
        same("P34 the third's is the next", 1, x.fits(0, 7, 2, false));
        CountedRoom y = cast("aa bb cc / dd", "aa / bb", "aa bb / cc");
        // 4, 2 and 3 lines; 5 long: 0 0 1 has 3 1 (or 4 1) and 3: 8; 0 1 1 has 4 and 5: 9; 0 1 0 has 5 and 2
        y.page(0, 2, 5);
        same("P33 nine", 9, y.fit(0, 7));
        same("P34 the first is alone", 1, y.fits(0, 7, 1, false));
        same("P34 the third is with the second", 1, y.fits(0, 7, 2, false));
    }

    private static void fitNone() {
        CountedRoom x = cast("aa bb", "cc dd");
        x.page(0, 1, 3);
        same("P33 none", NONE, x.fit(0, 3));
        same("P34 no column", NONE, x.fits(0, 3, 0, false));
        same("P34 no keep", NONE, x.fits(0, 3, 0, true));
        same("P35 no lock", NONE, x.lock(0, 3));
        same("P36 no slugs", 0, x.locked(0, 0));
        same("P36 no minute", NONE, x.locked(0, 1));
    }

    private static void fitOfFour() {
        CountedRoom x = cast("aa", "bb bb", "cc cc cc", "dd dd dd dd", "ee");
        x.page(0, 3, 4);
        same("P33 four", 10, x.fit(0, 15));
        // 4 has to be alone; 1 2 in one and 3 in another one, or 1 3 and 2: the first is 0 0 1 2
        same("P34 0", 0, x.fits(0, 15, 0, false));
        same("P34 0", 0, x.fits(0, 15, 1, false));
        same("P34 1", 1, x.fits(0, 15, 2, false));
        same("P34 2", 2, x.fits(0, 15, 3, false));
        refuses("P33 five stories", ARGUMENT, () -> x.fit(0, 31));
        same("P33 others of them", 8, x.fit(0, 0x1c));
    }

    private static void fitRefuses() {
        CountedRoom x = cast("aa bb", "cc dd");
        Checks.story(x, 0, 0, "ee / ff");
        refuses("P33 page 6", INDEX, () -> x.fit(6, 0));
        refuses("P33 page -1", INDEX, () -> x.fit(-1, 1));
        refuses("P33 story 3", INDEX, () -> x.fit(0, 8));
        refuses("P33 all bits", INDEX, () -> x.fit(0, -1));
        refuses("P33 the highest bit", INDEX, () -> x.fit(0, Integer.MIN_VALUE | 1));
        refuses("P33 no story", ARGUMENT, () -> x.fit(0, 0));
        refuses("P33 not set", STATE, () -> x.fit(0, 4));
        refuses("P33 one of two not set", STATE, () -> x.fit(0, 5));
        x.give(10, 0);
        x.minutes(1);
        refuses("P33 one part not set", STATE, () -> x.fit(0, 4));
        x.give(11, 0);
        x.minutes(1);
        same("P33 set", 2, x.fit(0, 4));
        CountedRoom y = new CountedRoom();
        refuses("P33 without stories", INDEX, () -> y.fit(0, 1));
        refuses("P33 none without stories", ARGUMENT, () -> y.fit(0, 0));
        for (int i = 0; i < 20; i++) {
            Checks.story(y, 0, 0, "a");
        }
        refuses("P33 five of twenty", ARGUMENT, () -> y.fit(0, 0xf8000));
        refuses("P33 the last of twenty is not set", STATE, () -> y.fit(0, 0x80000));
        refuses("P33 a 21st", INDEX, () -> y.fit(0, 0x100000));
    }

    private static void otherStoriesNotSet() {
        CountedRoom x = Rooms.singles("aa", "bb", "cc");
        x.machine(40, 0);
        x.give(5, 0);
        x.give(10, 0);
        x.minutes(2);
        same("P33 story 1", 1, x.fit(0, 2));
        same("P33 story 2", 1, x.fit(0, 4));
        same("P33 both", 2, x.fit(0, 6));
        refuses("P33 story 0", STATE, () -> x.fit(0, 1));
        CountedRoom y = Rooms.singles("aa", "bb", "cc");
        y.machine(40, 0);
        y.give(0, 0);
        y.minutes(1);
        same("P33 story 0", 1, y.fit(0, 1));
        refuses("P33 not story 1", STATE, () -> y.fit(0, 2));
        refuses("P33 not story 2", STATE, () -> y.fit(0, 5));
    }

    private static void fullPage() {
        String part = Checks.many("aa", 20, " ");
        String copy = part + "/" + part + "/" + part;
        CountedRoom x = Rooms.singles(copy, copy, copy, "bb");
        x.machine(40, 0);
        Rooms.castAll(x);
        same("P17 181 slugs", 181, x.count(4));
        x.page(0, 3, 60);
        same("P33 three columns of 60", 180, x.fit(0, 7));
        same("P35 180 slugs", 180, x.lock(0, 7));
        same("P37 the last one", 179, x.stands(0, NONE, 179));
        x.edition();
        same("P37 as the edition has it", 179, x.stands(0, 0, 179));
        same("P35 with a fourth one parts are cut", 161, x.lock(0, 15));
        same("P39 one is new", 1, x.changed(0, 0, NONE));
        same("P39 twenty are away", 20, x.changed(0, NONE, 0));
    }

    private static void fits() {
        CountedRoom x = cast("aa bb", "cc dd");
        Checks.story(x, 0, 0, "ee / ff");
        same("P34 not of the set", NONE, x.fits(0, 1, 1, true));
        same("P34 not of the set, and not set", NONE, x.fits(0, 1, 2, false));
        same("P34 of the set", 1, x.fits(0, 1, 0, true));
        refuses("P34 story 3", INDEX, () -> x.fits(0, 0, 3, true));
        refuses("P34 story -1", INDEX, () -> x.fits(0, 1, -1, true));
        refuses("P34 page 6", INDEX, () -> x.fits(6, 1, 0, true));
        refuses("P34 a bit of none", INDEX, () -> x.fits(0, 9, 0, true));
        refuses("P34 none", ARGUMENT, () -> x.fits(0, 0, 0, true));
        refuses("P34 not set", STATE, () -> x.fits(0, 5, 0, true));
    }

    private static void lock() {
        CountedRoom x = cast("aa bb / cc", "dd");
        same("P35 slugs", 4, x.lock(2, 3));
        for (int i = 0; i < 4; i++) {
            same("P37 in order", i, x.stands(2, NONE, i));
        }
        same("P37 no more", NONE, x.stands(2, NONE, 4));
        same("P37 none ahead", NONE, x.stands(2, NONE, -1));
        same("P37 another page", NONE, x.stands(1, NONE, 0));
        same("P36 slugs", 4, x.locked(2, 0));
        same("P36 its minute", 4, x.locked(2, 1));
        x.change(0, 1);
        x.slip(0, 0, 1);
        x.slip(0, 1, 1);
        x.slip(1, 0, 0);
        x.slip(1, 1, 0);
        x.minutes(2);
        same("P37 it has what it had", 0, x.stands(2, NONE, 0));
        same("P35 in place of those", 3, x.lock(2, 1));
        same("P37 what lies there now", 1, x.stands(2, NONE, 0));
        same("P37 in the second place", 0, x.stands(2, NONE, 1));
        same("P37 nothing is left", NONE, x.stands(2, NONE, 3));
        same("P36 its minute", 6, x.locked(2, 1));
        refuses("P35 page 6", INDEX, () -> x.lock(6, 1));
        refuses("P35 story 2", INDEX, () -> x.lock(0, 4));
        refuses("P35 none", ARGUMENT, () -> x.lock(0, 0));
        Checks.story(x, 0, 0, "ee");
        refuses("P35 not set", STATE, () -> x.lock(0, 5));
        refuses("P37 page 6", INDEX, () -> x.stands(6, NONE, 0));
        refuses("P37 page -1", INDEX, () -> x.stands(-1, NONE, 0));
        refuses("P37 no edition", INDEX, () -> x.stands(0, 0, 0));
        refuses("P37 edition -2", INDEX, () -> x.stands(0, -2, 0));
    }

    private static void lockByColumns() {
        // 2, 3 and 1 lines; 3 long: the first and the third in column 0
        CountedRoom x = cast("aa bb", "cc dd ee", "ff");
        x.page(0, 2, 3);
        same("P35 six", 6, x.lock(0, 7));
        int[] slugs = {0, 1, 5, 2, 3, 4};
        for (int i = 0; i < 6; i++) {
            same("P37 column by column", slugs[i], x.stands(0, NONE, i));
        }
    }

    private static void lockOfPartsKept() {
        CountedRoom x = cast("aa bb / cc / dd", "ee");
        x.page(0, 1, 4);
        x.pie(3);
        same("P35 what it does not keep need not be right", 4, x.lock(0, 3));
        same("P37 the third part is cut", 4, x.stands(0, NONE, 3));
        x.page(0, 1, 5);
        same("P35 what it keeps must be", NONE, x.lock(0, 3));
        same("P36 the former stays", 4, x.locked(0, 0));
    }

    private static void lockNotRight() {
        CountedRoom x = cast("aa bb", "cc");
        x.slip(1, 0, 25);
        same("P35 a wrong one", NONE, x.lock(0, 1));
        same("P35 another story", 1, x.lock(0, 2));
        x.slip(1, 0, 1);
        same("P35 right again", 2, x.lock(0, 1));
        x.pie(0);
        same("P35 an empty place", NONE, x.lock(0, 3));
        same("P36 the page has what it had", 2, x.locked(0, 0));
        same("P37 also what is pied", 0, x.stands(0, NONE, 0));
        x.again(0, 0, 0);
        x.minutes(1);
        same("P35 cast again", 3, x.lock(0, 3));
        same("P37 the new one", 3, x.stands(0, NONE, 0));
    }

    private static void late() {
        CountedRoom x = cast("aa bb");
        Checks.style(x, 2, "measure 10; space 1 40; close 0 at 9; close 1 at 3; close 1 at 4; close 3 at 600");
        Checks.style(x, 9, "close 0 at 5");
        x.lock(0, 1);
        same("P36 0 at least", 0, x.locked(0, 2));
        x.minutes(4);
        same("P36 locked at 2", 2, x.locked(0, 1));
        x.lock(0, 1);
        x.lock(1, 1);
        x.lock(2, 1);
        x.lock(3, 1);
        same("P36 ahead of its close", 0, x.locked(0, 2));
        same("P36 of the last close rule", 2, x.locked(1, 2));
        same("P36 without a rule", 0, x.locked(2, 2));
        same("P36 long ahead", 0, x.locked(3, 2));
        x.minutes(4);
        same("P36 as it was locked", 2, x.locked(1, 2));
        x.lock(0, 1);
        x.lock(1, 1);
        same("P36 by the style of now", 5, x.locked(0, 2));
        same("P36 it has no such rule", 0, x.locked(1, 2));
    }

    private static void locked() {
        CountedRoom x = new CountedRoom();
        refuses("P36 page 6", INDEX, () -> x.locked(6, 9));
        refuses("P36 page -1", INDEX, () -> x.locked(-1, 0));
        refuses("P36 what 5", NO_ELEMENT, () -> x.locked(0, 5));
        refuses("P36 what -1", NO_ELEMENT, () -> x.locked(0, -1));
    }

    private static void editions() {
        CountedRoom x = cast("aa bb", "cc");
        x.lock(0, 1);
        x.lock(5, 2);
        same("P38 the first", 0, x.edition());
        x.lock(0, 2);
        same("P38 the second", 1, x.edition());
        x.lock(0, 3);
        same("P37 as it is now", 0, x.stands(0, NONE, 0));
        same("P37 as the first has it", 1, x.stands(0, 0, 1));
        same("P37 no more there", NONE, x.stands(0, 0, 2));
        same("P37 as the second has it", 2, x.stands(0, 1, 0));
        same("P37 no more there", NONE, x.stands(0, 1, 1));
        same("P37 page 5 of the first", 2, x.stands(5, 0, 0));
        same("P37 page 5 of the second", 2, x.stands(5, 1, 0));
        same("P37 page 1", NONE, x.stands(1, 0, 0));
        refuses("P37 edition 2", INDEX, () -> x.stands(0, 2, 0));
        same("P48 editions", 2, x.count(11));
    }

    private static void eightEditions() {
        CountedRoom x = new CountedRoom();
        for (int i = 0; i < 8; i++) {
            same("P38 number", i, x.edition());
        }
        refuses("P38 a ninth", UNSUPPORTED, x::edition);
        same("P48 eight", 8, x.count(11));
        same("P37 the last one", NONE, x.stands(5, 7, 0));
        same("P39 nothing", 0, x.changed(5, 7, 0));
    }

    private static void changed() {
        CountedRoom x = cast("aa bb cc", "dd", "ee ff");
        x.edition();
        x.lock(0, 3);
        x.edition();
        x.lock(0, 6);
        same("P39 from nothing to four", 4, x.changed(0, 0, 1));
        same("P39 from four to nothing", 0, x.changed(0, 1, 0));
        same("P39 to now", 2, x.changed(0, 1, NONE));
        same("P39 from now", 3, x.changed(0, NONE, 1));
        same("P39 from nothing to now", 3, x.changed(0, 0, NONE));
        same("P39 to itself", 0, x.changed(0, 1, 1));
        same("P39 now to now", 0, x.changed(0, NONE, NONE));
        same("P39 another page", 0, x.changed(1, 0, NONE));
        refuses("P39 page 6", INDEX, () -> x.changed(6, 0, 0));
        refuses("P39 page -1", INDEX, () -> x.changed(-1, 0, 0));
        refuses("P39 edition 2", INDEX, () -> x.changed(0, 2, 0));
        refuses("P39 to edition 2", INDEX, () -> x.changed(0, 0, 2));
        refuses("P39 edition -2", INDEX, () -> x.changed(0, -2, 0));
        refuses("P39 to edition -2", INDEX, () -> x.changed(0, 0, -2));
    }
}
