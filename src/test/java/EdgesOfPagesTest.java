/**
 * Part 7, and promises 32 to 39: of each sentence that names an edge what is taken last and refused first, nothing,
 * one, as many as there may be, and one more. What a refused call leaves as it was is in RefusalsOfPagesTest.
 */
public final class EdgesOfPagesTest extends Edges {
    public static void main(String[] args) {
        pages();
        columnsAndLong();
        linesOfAColumn();
        keepsOneAtLeast();
        oneToFourStories();
        lastStories();
        fitsOfTheSet();
        fivePartsOfEach();
        tiesByColumns();
        tiesByParts();
        moreLinesComeFirst();
        setAndNotSet();
        lockedWhenRight();
        lockedOrder();
        lockedInPlaceOfThose();
        fullPage();
        lateByMinutes();
        closeOfEachPage();
        eightEditions();
        editionsAreKept();
        changed();
        Checks.finish("EdgesOfPagesTest");
    }

    /** STORIES in which each WORD of two letters is a LINE, all of them cast. */
    private static CountedRoom cast(String... copies) {
        CountedRoom x = new CountedRoom();
        for (int sign = 0; sign < 6; sign++) {
            x.width(0, sign, 5);
        }
        Checks.style(x, 0, "measure 10; space 1 40");
        for (String copy : copies) {
            Checks.story(x, 0, 0, copy);
        }
        x.machine(40, 0);
        Rooms.castAll(x);
        return x;
    }

    private static String lines(int n) {
        return Checks.many("ab", n, " ");
    }

    private static void pages() {
        CountedRoom x = cast("ab");
        for (int page = 0; page < 6; page++) {
            same("P36 locked: a new PAGE, SLUGS", 0, x.locked(page, 0));
            same("P36 locked: a new PAGE, its minute", NONE, x.locked(page, 1));
            same("P36 locked: a new PAGE, LATE", 0, x.locked(page, 2));
            same("P36 locked: a new PAGE, COLUMNS", 1, x.locked(page, 3));
            same("P36 locked: a new PAGE, LONG", 20, x.locked(page, 4));
            same("P33 fit: PAGE " + page, 1, x.fit(page, 1));
            same("P34 fits: PAGE " + page, 0, x.fits(page, 1, 0, false));
            same("P35 lock: PAGE " + page, 1, x.lock(page, 1));
            same("P37 stands: PAGE " + page, 0, x.stands(page, NONE, 0));
            x.page(page, 3, 60 - page);
            same("P32 page: PAGE " + page, 60 - page, x.locked(page, 4));
        }
        for (int page : new int[] {-1, 6}) {
            refuses("P32 page: PAGE " + page, INDEX, () -> x.page(page, 1, 20));
            refuses("P33 fit: PAGE " + page, INDEX, () -> x.fit(page, 1));
            refuses("P34 fits: PAGE " + page, INDEX, () -> x.fits(page, 1, 0, true));
            refuses("P35 lock: PAGE " + page, INDEX, () -> x.lock(page, 1));
            refuses("P36 locked: PAGE " + page, INDEX, () -> x.locked(page, 0));
            refuses("P37 stands: PAGE " + page, INDEX, () -> x.stands(page, NONE, 0));
            refuses("P39 changed: PAGE " + page, INDEX, () -> x.changed(page, NONE, NONE));
        }
    }

    private static void columnsAndLong() {
        CountedRoom x = new CountedRoom();
        for (int columns = 1; columns <= 3; columns++) {
            for (int length : new int[] {1, 2, 59, 60}) {
                x.page(0, columns, length);
                same("P32 page: COLUMNS " + columns, columns, x.locked(0, 3));
                same("P32 page: LONG " + length, length, x.locked(0, 4));
            }
        }
        refuses("P32 page: COLUMNS 0", ARGUMENT, () -> x.page(0, 0, 20));
        refuses("P32 page: COLUMNS 4", ARGUMENT, () -> x.page(0, 4, 20));
        refuses("P32 page: LONG 0", ARGUMENT, () -> x.page(0, 1, 0));
        refuses("P32 page: LONG 61", ARGUMENT, () -> x.page(0, 1, 61));
        same("P32 page: COLUMNS stay", 3, x.locked(0, 3));
        same("P32 page: LONG stays", 60, x.locked(0, 4));
    }

    private static void linesOfAColumn() {
        CountedRoom x = cast(lines(20), lines(1), lines(2));
        same("Part 7: 20 LINES in 20", 20, x.fit(0, 1));
        same("Part 7: 21 LINES in 20", NONE, x.fit(0, 3));
        x.page(0, 1, 19);
        same("Part 7: 20 LINES in 19", NONE, x.fit(0, 1));
        x.page(0, 1, 1);
        same("Part 7: one LINE in 1", 1, x.fit(0, 2));
        same("Part 7: two LINES in 1", NONE, x.fit(0, 4));
        same("Part 7: one and two LINES in 1", NONE, x.fit(0, 6));
        x.page(0, 2, 2);
        same("Part 7: one and two LINES in 2 COLUMNS of 2", 3, x.fit(0, 6));
        x.page(0, 1, 3);
        same("Part 7: one and two LINES in 3", 3, x.fit(0, 6));
        x.page(0, 3, 2);
        same("Part 7: 20 LINES in none of three COLUMNS", NONE, x.fit(0, 7));
    }

    private static void keepsOneAtLeast() {
        CountedRoom x = cast("ab cd / ab / ab / ab / ab");
        for (int length = 1; length <= 7; length++) {
            x.page(0, 1, length);
            int keeps = length < 2 ? NONE : Math.min(5, length - 1);
            same("Part 7: what is kept in " + length, keeps, x.fits(0, 1, 0, true));
            same("Part 7: LINES kept in " + length, length < 2 ? NONE : Math.min(6, length), x.fit(0, 1));
        }
        CountedRoom y = cast("ab", "ab cd / ab");
        y.page(0, 1, 2);
        same("Part 7: the second STORY keeps not even one", NONE, y.fit(0, 3));
        y.page(0, 1, 3);
        same("Part 7: the second STORY keeps one", 1, y.fits(0, 3, 1, true));
        y.page(0, 1, 4);
        same("Part 7: the second STORY keeps all", 2, y.fits(0, 3, 1, true));
    }

    private static void oneToFourStories() {
        CountedRoom x = cast("ab", "ab", "ab", "ab", "ab");
        int[] sets = {1, 16, 3, 24, 7, 28, 15, 30, 27};
        for (int set : sets) {
            same("P33 fit: the set " + set, Integer.bitCount(set), x.fit(0, set));
            same("P35 lock: the set " + set, Integer.bitCount(set), x.lock(0, set));
        }
        refuses("P33 fit: no STORY", ARGUMENT, () -> x.fit(0, 0));
        refuses("P33 fit: five STORIES", ARGUMENT, () -> x.fit(0, 31));
        refuses("P33 fit: a bit of no STORY", INDEX, () -> x.fit(0, 32));
        refuses("P33 fit: a bit of no STORY and one", INDEX, () -> x.fit(0, 33));
        refuses("P33 fit: the last bit", INDEX, () -> x.fit(0, Integer.MIN_VALUE));
        refuses("P33 fit: all bits", INDEX, () -> x.fit(0, -1));
        refuses("P33 fit: 5 STORIES and one that is none", INDEX, () -> x.fit(0, 63));
        refuses("P34 fits: STORY 5 of five", INDEX, () -> x.fits(0, 1, 5, true));
        same("P34 fits: STORY 4 of five", NONE, x.fits(0, 1, 4, true));
    }

    private static void lastStories() {
        CountedRoom x = new CountedRoom();
        Checks.style(x, 0, Scenes.PAIRS);
        for (int i = 0; i < 20; i++) {
            Checks.story(x, 0, 0, "ab");
        }
        x.machine(9, 0);
        for (int i = 15; i < 20; i++) {
            x.give(5 * i, 0);
        }
        x.minutes(5);
        same("P33 fit: STORY 19 of 20", 1, x.fit(0, 1 << 19));
        same("P33 fit: STORIES 16 to 19", 4, x.fit(0, 15 << 16));
        same("P34 fits: STORY 19", 1, x.fits(0, 15 << 16, 19, true));
        refuses("P33 fit: STORIES 15 to 19", ARGUMENT, () -> x.fit(0, 31 << 15));
        refuses("P33 fit: STORY 20", INDEX, () -> x.fit(0, 1 << 20));
        refuses("P33 fit: STORY 0 is not SET", STATE, () -> x.fit(0, 1));
        refuses("P33 fit: STORIES 0 and 19", STATE, () -> x.fit(0, 1 | 1 << 19));
    }

    private static void fitsOfTheSet() {
        CountedRoom x = cast("ab", "ab", "ab");
        x.page(0, 3, 1);
        for (int story = 0; story < 3; story++) {
            same("P34 fits: COLUMN of STORY " + story, story, x.fits(0, 7, story, false));
            same("P34 fits: what STORY " + story + " keeps", 1, x.fits(0, 7, story, true));
        }
        same("P34 fits: not of the set", NONE, x.fits(0, 5, 1, false));
        same("P34 fits: the second one of the set", 1, x.fits(0, 5, 2, false));
        x.page(0, 2, 1);
        same("P34 fits: three in two COLUMNS of one", NONE, x.fits(0, 7, 0, false));
        refuses("P34 fits: STORY 3 of three", INDEX, () -> x.fits(0, 7, 3, false));
        refuses("P34 fits: STORY -1", INDEX, () -> x.fits(0, 7, -1, false));
    }

    private static void columnsAre(String what, CountedRoom x, int set, int... due) {
        for (int story = 0; story < due.length; story++) {
            same(what + ": COLUMN of STORY " + story, due[story], x.fits(0, set, story, false));
        }
    }

    private static void keepsAre(String what, CountedRoom x, int set, int... due) {
        for (int story = 0; story < due.length; story++) {
            same(what + ": what STORY " + story + " keeps", due[story], x.fits(0, set, story, true));
        }
    }

    private static void fivePartsOfEach() {
        CountedRoom x = cast("ab/ab/ab/ab/ab", "ab/ab/ab/ab/ab", "ab/ab/ab/ab/ab", "ab/ab/ab/ab/ab");
        same("P33 fit: 20 PARTS of four STORIES", 20, x.fit(0, 15));
        keepsAre("Part 7: all 20 PARTS", x, 15, 5, 5, 5, 5);
        same("P35 lock: 20 PARTS", 20, x.lock(0, 15));
        x.page(0, 1, 19);
        same("P33 fit: 19 of 20 PARTS", 19, x.fit(0, 15));
        keepsAre("Part 7: all but the last one", x, 15, 5, 5, 5, 4);
        x.page(0, 1, 6);
        keepsAre("Part 7: six PARTS of four STORIES", x, 15, 3, 1, 1, 1);
        x.page(0, 2, 5);
        same("P33 fit: ten PARTS in two COLUMNS", 10, x.fit(0, 15));
        columnsAre("Part 7: three STORIES in the first COLUMN", x, 15, 0, 0, 0, 1);
        keepsAre("Part 7: three STORIES in the first COLUMN", x, 15, 3, 1, 1, 5);
    }

    private static void tiesByColumns() {
        CountedRoom x = cast("ab", "ab ab", "ab ab ab", "ab ab ab ab");
        x.page(0, 3, 10);
        columnsAre("Part 7: all in the first COLUMN", x, 15, 0, 0, 0, 0);
        x.page(0, 3, 9);
        columnsAre("Part 7: the last one in the second COLUMN", x, 15, 0, 0, 0, 1);
        x.page(0, 3, 5);
        columnsAre("Part 7: 1 and 2, 3, and 4", x, 15, 0, 0, 1, 2);
        x.page(0, 2, 5);
        columnsAre("Part 7: 1 and 4, 2 and 3", x, 15, 0, 1, 1, 0);
        x.page(0, 2, 6);
        columnsAre("Part 7: 1, 2 and 3, and 4", x, 15, 0, 0, 0, 1);
    }

    private static void tiesByParts() {
        CountedRoom x = cast("ab/ab/ab", "ab/ab/ab", "ab/ab/ab");
        x.page(0, 1, 5);
        keepsAre("Part 7: five LINES, the first one all", x, 7, 3, 1, 1);
        x.page(0, 1, 6);
        keepsAre("Part 7: six LINES, the second one two", x, 7, 3, 2, 1);
        x.page(0, 1, 7);
        keepsAre("Part 7: seven LINES, the second one all", x, 7, 3, 3, 1);
        x.page(0, 1, 3);
        keepsAre("Part 7: three LINES, one each", x, 7, 1, 1, 1);
        x.page(0, 1, 2);
        keepsAre("Part 7: two LINES, no FIT", x, 7, NONE, NONE, NONE);
    }

    private static void moreLinesComeFirst() {
        // 1 and 4 LINES, 1 and 1: with 3 in a COLUMN the first keeps one PART, though it might keep no second
        CountedRoom x = cast("ab / ab ab ab ab", "ab / ab");
        x.page(0, 1, 3);
        keepsAre("Part 7: three LINES by the second STORY", x, 3, 1, 2);
        x.page(0, 1, 6);
        keepsAre("Part 7: six LINES by the first STORY", x, 3, 2, 1);
        x.page(0, 2, 5);
        keepsAre("Part 7: all LINES", x, 3, 2, 2);
        columnsAre("Part 7: all LINES in two COLUMNS", x, 3, 0, 1);
        x.page(0, 2, 7);
        columnsAre("Part 7: all LINES in the first COLUMN", x, 3, 0, 0);
    }

    private static void setAndNotSet() {
        CountedRoom x = new CountedRoom();
        Checks.style(x, 0, Scenes.PAIRS);
        Checks.story(x, 0, 0, "ab / cd");
        x.machine(9, 0);
        refuses("P33 fit: no PART is SET", STATE, () -> x.fit(0, 1));
        x.give(0, 0);
        x.minutes(1);
        refuses("P33 fit: one PART of two is SET", STATE, () -> x.fit(0, 1));
        refuses("P34 fits: one PART of two is SET", STATE, () -> x.fits(0, 1, 0, true));
        refuses("P35 lock: one PART of two is SET", STATE, () -> x.lock(0, 1));
        x.give(1, 0);
        x.brass(0, 2, 0);
        x.minutes(1);
        same("P18 runs: the second one is SPIKED", 1, x.runs(0, 3));
        same("P33 fit: both are SET, and one is not cast", 2, x.fit(0, 1));
        same("P35 lock: a PLACE is not RIGHT", NONE, x.lock(0, 1));
    }

    private static void lockedWhenRight() {
        CountedRoom x = cast("ab cd / ef");
        x.page(0, 1, 2);
        x.slip(2, 0, 25);
        same("P35 lock: what is not kept may be WRONG", 2, x.lock(0, 1));
        x.page(0, 1, 3);
        same("P35 lock: what is kept may not", NONE, x.lock(0, 1));
        same("P36 locked: it has what it had", 2, x.locked(0, 0));
        x.slip(2, 0, 4);
        same("P35 lock: RIGHT again", 3, x.lock(0, 1));
        x.pie(0);
        same("P35 lock: the first PLACE has none", NONE, x.lock(0, 1));
        same("P37 stands: it has it still", 0, x.stands(0, NONE, 0));
    }

    private static void lockedOrder() {
        // COLUMN 0 has STORIES 0 and 3, COLUMN 1 has 1 and 2
        CountedRoom x = cast("ab", "ab ab", "ab ab ab", "ab ab ab ab");
        x.page(0, 2, 5);
        same("P35 lock: ten SLUGS", 10, x.lock(0, 15));
        int[] due = {0, 6, 7, 8, 9, 1, 2, 3, 4, 5};
        for (int i = 0; i < 10; i++) {
            same("P37 stands: SLUG " + i, due[i], x.stands(0, NONE, i));
        }
        same("P37 stands: SLUG 10 of ten", NONE, x.stands(0, NONE, 10));
        same("P37 stands: SLUG -1", NONE, x.stands(0, NONE, -1));
        same("P36 locked: ten SLUGS", 10, x.locked(0, 0));
    }

    private static void lockedInPlaceOfThose() {
        CountedRoom x = cast("ab ab ab", "ab");
        int now = x.count(0);
        x.lock(0, 1);
        same("P36 locked: three SLUGS", 3, x.locked(0, 0));
        same("P36 locked: its minute", now, x.locked(0, 1));
        x.minutes(2);
        x.lock(0, 2);
        same("P36 locked: one SLUG in their place", 1, x.locked(0, 0));
        same("P36 locked: another minute", now + 2, x.locked(0, 1));
        same("P37 stands: that one", 3, x.stands(0, NONE, 0));
        same("P37 stands: none of the others", NONE, x.stands(0, NONE, 1));
        x.minutes(1);
        x.page(0, 1, 1);
        same("P35 lock: no FIT", NONE, x.lock(0, 1));
        same("P36 locked: its minute stays", now + 2, x.locked(0, 1));
        same("P32 page: what it has stays", 1, x.locked(0, 0));
    }

    /** Three COLUMNS of 60 LINES each. */
    private static void fullPage() {
        String story = lines(20) + "/" + lines(20) + "/" + lines(20);
        CountedRoom x = cast(story, story, story);
        x.page(5, 3, 60);
        same("P33 fit: 180 LINES", 180, x.fit(5, 7));
        same("P35 lock: 180 SLUGS", 180, x.lock(5, 7));
        same("P36 locked: 180 SLUGS", 180, x.locked(5, 0));
        same("P37 stands: SLUG 179", 179, x.stands(5, NONE, 179));
        same("P37 stands: SLUG 180", NONE, x.stands(5, NONE, 180));
        x.page(5, 3, 59);
        same("P33 fit: 59 LONG, two PARTS each", 120, x.fit(5, 7));
        same("P38 edition: with 180 SLUGS", 0, x.edition());
        same("P37 stands: SLUG 179 of it", 179, x.stands(5, 0, 179));
        same("P39 changed: 180 SLUGS and the same", 0, x.changed(5, 0, NONE));
        x.page(5, 1, 60);
        x.lock(5, 1);
        same("P39 changed: none that it had not", 0, x.changed(5, 0, NONE));
        same("P39 changed: 120 that it has no more", 120, x.changed(5, NONE, 0));
    }

    private static void lateByMinutes() {
        for (int close = 0; close <= 4; close++) {
            CountedRoom x = new CountedRoom();
            Checks.style(x, 0, Scenes.PAIRS + "; close 0 at " + close);
            Checks.story(x, 0, 0, "ab");
            x.machine(9, 0);
            x.give(0, 0);
            for (int now = 1; now <= 4; now++) {
                x.minutes(1);
                x.lock(0, 1);
                same("Part 7: close at " + close + ", LOCKED at " + now, Math.max(0, now - close), x.locked(0, 2));
            }
            x.minutes(5);
            same("P36 locked: LATE as it was LOCKED", Math.max(0, 4 - close), x.locked(0, 2));
        }
        CountedRoom y = new CountedRoom();
        Checks.style(y, 0, Scenes.PAIRS + "; close 0 at 0; close 1 at 600");
        Checks.story(y, 0, 0, "ab");
        y.machine(9, 0);
        y.give(0, 0);
        for (int i = 0; i < 5; i++) {
            y.minutes(120);
        }
        y.lock(0, 1);
        y.lock(1, 1);
        same("Part 7: LATE by 600", 600, y.locked(0, 2));
        same("Part 7: close at 600, LOCKED at 600", 0, y.locked(1, 2));
    }

    private static void closeOfEachPage() {
        CountedRoom x = new CountedRoom();
        Checks.style(x, 0, Scenes.PAIRS + "; close 5 at 1; close 0 at 1; close 0 at 3");
        Checks.story(x, 0, 0, "ab");
        x.machine(9, 0);
        x.give(0, 0);
        x.minutes(5);
        for (int page = 0; page < 6; page++) {
            x.lock(page, 1);
        }
        same("Part 7: the last close of PAGE 0", 2, x.locked(0, 2));
        same("Part 7: close of PAGE 5", 4, x.locked(5, 2));
        for (int page = 1; page < 5; page++) {
            same("Part 7: no close of PAGE " + page, 0, x.locked(page, 2));
        }
        Checks.style(x, 5, "close 0 at 1;" + Checks.many("fat 1", 10, ";") + ";close 0 at 4");
        x.lock(0, 1);
        x.lock(3, 1);
        same("Part 7: the last close of 12 RULES", 1, x.locked(0, 2));
        same("Part 7: no close of PAGE 3 in 12 RULES", 0, x.locked(3, 2));
        Checks.style(x, 5, "close 0 at 3;" + Checks.many("fat 1", 11, ";"));
        x.lock(0, 1);
        same("Part 7: the only close is the first of 12 RULES", 2, x.locked(0, 2));
        Checks.style(x, 5, "close 1 at 4");
        x.lock(0, 1);
        x.lock(1, 1);
        same("Part 7: no close of PAGE 0 in the STYLE of NOW", 0, x.locked(0, 2));
        same("Part 7: close of PAGE 1 in the STYLE of NOW", 1, x.locked(1, 2));
    }

    private static void eightEditions() {
        CountedRoom x = cast("ab");
        same("P48 count: no EDITION", 0, x.count(11));
        refuses("P37 stands: EDITION 0 of none", INDEX, () -> x.stands(0, 0, 0));
        refuses("P39 changed: EDITION 0 of none", INDEX, () -> x.changed(0, 0, NONE));
        for (int i = 0; i < 8; i++) {
            same("P38 edition: the number of one of eight", i, x.edition());
            same("P48 count: EDITIONS", i + 1, x.count(11));
            int next = i + 1;
            refuses("P37 stands: EDITION " + next + " of " + next, INDEX, () -> x.stands(0, next, 0));
        }
        refuses("P38 edition: a 9th", UNSUPPORTED, () -> x.edition());
        same("P48 count: eight EDITIONS", 8, x.count(11));
        same("P37 stands: nothing in EDITION 7", NONE, x.stands(0, 7, 0));
        refuses("P37 stands: EDITION 8", INDEX, () -> x.stands(0, 8, 0));
        refuses("P37 stands: EDITION -2", INDEX, () -> x.stands(0, -2, 0));
    }

    private static void editionsAreKept() {
        CountedRoom x = cast("ab ab", "ab");
        for (int i = 0; i < 8; i++) {
            x.lock(i % 2 == 0 ? 0 : 5, 1 + i / 4);
            x.edition();
        }
        for (int i = 0; i < 8; i++) {
            same("P37 stands: PAGE 0 of EDITION " + i, i < 4 ? 0 : 2, x.stands(0, i, 0));
            same("P37 stands: the second one of EDITION " + i, i < 4 ? 1 : NONE, x.stands(0, i, 1));
            same("P37 stands: PAGE 5 of EDITION " + i, i < 1 ? NONE : i < 5 ? 0 : 2, x.stands(5, i, 0));
            same("P37 stands: PAGE 1 of EDITION " + i, NONE, x.stands(1, i, 0));
        }
        same("P39 changed: from the first one to the last one", 1, x.changed(0, 0, 7));
        same("P39 changed: from the last one to the first one", 2, x.changed(0, 7, 0));
    }

    private static void changed() {
        CountedRoom x = cast("ab cd", "ef");
        same("P39 changed: an empty PAGE as it is", 0, x.changed(0, NONE, NONE));
        x.edition();
        x.lock(0, 3);
        same("P39 changed: from nothing", 3, x.changed(0, 0, NONE));
        same("P39 changed: to nothing", 0, x.changed(0, NONE, 0));
        x.edition();
        Checks.correct(x, 0, 0, 0, "ba");
        x.minutes(1);
        x.lock(0, 3);
        same("P39 changed: one SLUG is another one", 1, x.changed(0, 1, NONE));
        same("P39 changed: the one that it was", 1, x.changed(0, NONE, 1));
        same("P39 changed: between EDITIONS", 3, x.changed(0, 0, 1));
        same("P39 changed: an EDITION from itself", 0, x.changed(0, 1, 1));
        same("P39 changed: another PAGE", 0, x.changed(1, 0, NONE));
        x.lock(0, 2);
        same("P39 changed: what is there no more does not count", 0, x.changed(0, 1, NONE));
    }
}
