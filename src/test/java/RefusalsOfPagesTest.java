/**
 * Promises 28 to 48: each call that is refused, by the last number on each side that is; what it throws or answers,
 * which of several exceptions it is, and that nothing is changed but what the document says.
 */
public final class RefusalsOfPagesTest extends Edges {
    private static final int LEAST = Integer.MIN_VALUE;
    private static final int MOST = Integer.MAX_VALUE;
    private static final int[] NO_SLUGS = {-1, 7, 300, LEAST, MOST};
    private static final int[] NO_PAGES = {-1, 6, LEAST, MOST};
    /** Bits of no STORY of NIGHT, in which STORIES 0, 1, 2 and 3 are; not all of 2 is SET. */
    private static final int[] NO_SETS = {16, 17, 1 << 19, 1 << 20, 1 << 30, LEAST, -1, LEAST + 1, MOST};

    private static final Scene NIGHT = Scenes::night;
    private static final Scene FIVE = RefusalsOfPagesTest::fiveStories;

    public static void main(String[] args) {
        read();
        proof();
        carry();
        carryTold();
        where();
        page();
        fit();
        fits();
        lock();
        lockOfNothing();
        locked();
        stands();
        edition();
        changed();
        plans();
        rows();
        images();
        count();
        Checks.finish("RefusalsOfPagesTest");
    }

    /** Five STORIES of one LINE each, all of them cast. */
    private static void fiveStories(CountedRoom x) {
        Checks.style(x, 0, Scenes.PAIRS);
        x.machine(9, 0);
        for (int i = 0; i < 5; i++) {
            Checks.story(x, 0, 0, "ab cd");
            x.give(5 * i, 0);
        }
        x.minutes(6);
    }

    private static void read() {
        for (int reader : new int[] {-1, 2, LEAST, MOST}) {
            refused("P28 read: READER " + reader, INDEX, NIGHT, x -> x.read(reader, 1));
            refused("P28 read: READER " + reader + ", no SLUG", INDEX, NIGHT, x -> x.read(reader, 7));
        }
        for (int slug : NO_SLUGS) {
            refused("P28 read: SLUG " + slug, INDEX, NIGHT, x -> x.read(0, slug));
            refused("P28 read: SLUG " + slug + ", by 1", INDEX, NIGHT, x -> x.read(1, slug));
        }
        answersAlone("P28 read: 0 did", 0, NIGHT, x -> bit(x.read(0, 0)));
        answersAlone("P28 read: 1 did", 0, NIGHT, x -> bit(x.read(1, 3)));
    }

    private static void proof() {
        for (int what : new int[] {-1, 6, LEAST, MOST}) {
            refused("P29 proof: what " + what, NO_ELEMENT, NIGHT, x -> x.proof(what));
        }
        int[] due = {2, 2, 1, 1, 2, 0};
        for (int what = 0; what < 6; what++) {
            int w = what;
            answersAlone("P29 proof: what " + w, due[w], NIGHT, x -> x.proof(w));
        }
        answersAlone("P29 proof: no MISSED of a new room", NONE, x -> x.end(0), x -> x.proof(3));
    }

    private static void carry() {
        for (int slug : NO_SLUGS) {
            refused("P30 carry: SLUG " + slug, INDEX, NIGHT, x -> x.carry(slug, 1, 6));
            refused("P30 carry: SLUG " + slug + ", RACK 10", INDEX, NIGHT, x -> x.carry(slug, 10, 6));
            refused("P30 carry: SLUG " + slug + ", minute 7", INDEX, NIGHT, x -> x.carry(slug, 1, 7));
        }
        for (int rack : new int[] {-1, 10, LEAST, MOST}) {
            refused("P30 carry: RACK " + rack, ARGUMENT, NIGHT, x -> x.carry(6, rack, 6));
        }
        for (int minute : new int[] {3, 7, 0, -1, LEAST, MOST}) {
            refused("P30 carry: minute " + minute + " of 4 to 6", ARGUMENT, NIGHT, x -> x.carry(6, 1, minute));
        }
    }

    private static void carryTold() {
        Scene told = Scenes::tellings;
        answersAlone("P30 carry: a 201st", NONE, told, x -> x.carry(0, 4, 2));
        answersAlone("P30 carry: a 201st of the same", NONE, told, x -> x.carry(0, 3, 2));
        refused("P30 carry: a 201st of no SLUG", INDEX, told, x -> x.carry(1, 3, 2));
        refused("P30 carry: a 201st at no RACK", ARGUMENT, told, x -> x.carry(0, 10, 2));
        refused("P30 carry: a 201st ahead of its casting", ARGUMENT, told, x -> x.carry(0, 3, 1));
        refused("P30 carry: a 201st behind NOW", ARGUMENT, told, x -> x.carry(0, 3, 5));
    }

    private static void where() {
        for (int slug : NO_SLUGS) {
            refused("P31 where: SLUG " + slug, INDEX, NIGHT, x -> x.where(slug, 6, 6));
        }
        answersAlone("P31 where: it was told", 7, NIGHT, x -> x.where(2, 6, 6));
        answersAlone("P31 where: nothing was told of it", NONE, NIGHT, x -> x.where(1, MOST, MOST));
        answersAlone("P31 where: it was not told up to 5", NONE, NIGHT, x -> x.where(2, 6, 5));
        answersAlone("P31 where: not of minutes up to 5", NONE, NIGHT, x -> x.where(2, 5, 6));
        answersAlone("P31 where: two RACKS of that minute", NONE, NIGHT, x -> x.where(0, 2, 6));
        answersAlone("P31 where: one RACK, as known ahead of the other", 4, NIGHT, x -> x.where(0, 2, 5));
        answersAlone("P31 where: the least minute", NONE, NIGHT, x -> x.where(2, LEAST, MOST));
        answersAlone("P31 where: known at the least minute", NONE, NIGHT, x -> x.where(2, MOST, LEAST));
    }

    private static void page() {
        for (int page : NO_PAGES) {
            refused("P32 page: PAGE " + page, INDEX, NIGHT, x -> x.page(page, 1, 20));
            refused("P32 page: PAGE " + page + ", 4 COLUMNS", INDEX, NIGHT, x -> x.page(page, 4, 20));
            refused("P32 page: PAGE " + page + ", 61 LONG", INDEX, NIGHT, x -> x.page(page, 1, 61));
        }
        for (int columns : new int[] {0, 4, -1, LEAST, MOST}) {
            refused("P32 page: COLUMNS " + columns, ARGUMENT, NIGHT, x -> x.page(3, columns, 5));
        }
        for (int length : new int[] {0, 61, -1, LEAST, MOST}) {
            refused("P32 page: LONG " + length, ARGUMENT, NIGHT, x -> x.page(3, 1, length));
        }
    }

    private static void fit() {
        for (int page : NO_PAGES) {
            refused("P33 fit: PAGE " + page, INDEX, NIGHT, x -> x.fit(page, 1));
            refused("P33 fit: PAGE " + page + ", no STORIES", INDEX, NIGHT, x -> x.fit(page, 0));
            refused("P33 fit: PAGE " + page + ", not SET", INDEX, NIGHT, x -> x.fit(page, 4));
        }
        for (int set : NO_SETS) {
            refused("P33 fit: bits of no STORY " + set, INDEX, NIGHT, x -> x.fit(0, set));
        }
        refused("P33 fit: STORY 4 and one not SET", INDEX, NIGHT, x -> x.fit(0, 20));
        refused("P33 fit: STORY 0 of a new room", INDEX, x -> x.end(0), x -> x.fit(0, 1));
        refused("P33 fit: no STORIES", ARGUMENT, NIGHT, x -> x.fit(0, 0));
        refused("P33 fit: no STORIES of a new room", ARGUMENT, x -> x.end(0), x -> x.fit(0, 0));
        refused("P33 fit: 5 STORIES", ARGUMENT, FIVE, x -> x.fit(0, 31));
        Scene sixth = FIVE.then(x -> Checks.story(x, 0, 0, "ab"));
        refused("P33 fit: 5 STORIES, one not SET", ARGUMENT, sixth, x -> x.fit(0, 62));
        refused("P33 fit: 6 STORIES", ARGUMENT, sixth, x -> x.fit(0, 63));
        refused("P33 fit: one STORY, its PARTS not SET", STATE, NIGHT, x -> x.fit(0, 4));
        refused("P33 fit: 4 STORIES, one not SET", STATE, NIGHT, x -> x.fit(0, 15));
        Scene half = NIGHT.then(x -> x.broken(1, false)).then(x -> x.minutes(1));
        refused("P33 fit: its first PART is SET, its last one is not", STATE, half, x -> x.fit(0, 4));
        answersAlone("P33 fit: 4 STORIES", 4, FIVE, x -> x.fit(0, 30));
        answersAlone("P33 fit: 1 STORY", 1, FIVE, x -> x.fit(0, 16));
        Scene narrow = FIVE.then(x -> x.page(0, 1, 3));
        answersAlone("P33 fit: none of 4 LINES in 3", NONE, narrow, x -> x.fit(0, 15));
        answersAlone("P33 fit: 3 LINES in 3", 3, narrow, x -> x.fit(0, 7));
    }

    private static void fits() {
        for (int story : new int[] {-1, 4, 20, 31, LEAST, MOST}) {
            refused("P34 fits: STORY " + story, INDEX, NIGHT, x -> x.fits(0, 1, story, false));
            refused("P34 fits: STORY " + story + ", no STORIES", INDEX, NIGHT, x -> x.fits(0, 0, story, true));
            refused("P34 fits: STORY " + story + ", not SET", INDEX, NIGHT, x -> x.fits(0, 4, story, true));
        }
        for (int page : NO_PAGES) {
            refused("P34 fits: PAGE " + page, INDEX, NIGHT, x -> x.fits(page, 1, 0, false));
        }
        for (int set : NO_SETS) {
            refused("P34 fits: bits of no STORY " + set, INDEX, NIGHT, x -> x.fits(0, set, 0, true));
        }
        refused("P34 fits: no STORIES", ARGUMENT, NIGHT, x -> x.fits(0, 0, 0, true));
        refused("P34 fits: 5 STORIES", ARGUMENT, FIVE, x -> x.fits(0, 31, 0, true));
        refused("P34 fits: not SET", STATE, NIGHT, x -> x.fits(0, 5, 0, true));
        refused("P34 fits: not SET, and not of the set", STATE, NIGHT, x -> x.fits(0, 4, 0, true));
        answersAlone("P34 fits: not of the set, its COLUMN", NONE, NIGHT, x -> x.fits(0, 1, 1, false));
        answersAlone("P34 fits: not of the set, what it keeps", NONE, NIGHT, x -> x.fits(0, 1, 1, true));
        answersAlone("P34 fits: of the set, its COLUMN", 0, NIGHT, x -> x.fits(0, 1, 0, false));
        answersAlone("P34 fits: of the set, what it keeps", 2, NIGHT, x -> x.fits(0, 1, 0, true));
        Scene narrow = NIGHT.then(x -> x.page(0, 1, 1));
        answersAlone("P34 fits: without a FIT, its COLUMN", NONE, narrow, x -> x.fits(0, 1, 0, false));
        answersAlone("P34 fits: without a FIT, what it keeps", NONE, narrow, x -> x.fits(0, 1, 0, true));
    }

    private static void lock() {
        for (int page : NO_PAGES) {
            refused("P35 lock: PAGE " + page, INDEX, NIGHT, x -> x.lock(page, 2));
            refused("P35 lock: PAGE " + page + ", no STORIES", INDEX, NIGHT, x -> x.lock(page, 0));
        }
        for (int set : NO_SETS) {
            refused("P35 lock: bits of no STORY " + set, INDEX, NIGHT, x -> x.lock(0, set));
        }
        refused("P35 lock: no STORIES", ARGUMENT, NIGHT, x -> x.lock(0, 0));
        refused("P35 lock: 5 STORIES", ARGUMENT, FIVE, x -> x.lock(0, 31));
        refused("P35 lock: not SET", STATE, NIGHT, x -> x.lock(0, 4));
        refused("P35 lock: one of two not SET", STATE, NIGHT, x -> x.lock(0, 6));
    }

    private static void lockOfNothing() {
        answersAlone("P35 lock: nothing lies at a PLACE", NONE, NIGHT, x -> x.lock(0, 8));
        answersAlone("P35 lock: a WRONG one", NONE, NIGHT, x -> x.lock(0, 1));
        answersAlone("P35 lock: one of two is not RIGHT", NONE, NIGHT, x -> x.lock(1, 3));
        Scene narrow = NIGHT.then(x -> x.page(1, 1, 1)).then(x -> x.page(2, 1, 1));
        answersAlone("P35 lock: without a FIT", NONE, narrow, x -> x.lock(2, 1));
        answersAlone("P35 lock: two without a FIT", NONE, narrow, x -> x.lock(1, 3));
    }

    private static void locked() {
        for (int page : NO_PAGES) {
            refused("P36 locked: PAGE " + page, INDEX, NIGHT, x -> x.locked(page, 0));
        }
        for (int what : new int[] {-1, 5, LEAST, MOST}) {
            refused("P36 locked: what " + what, NO_ELEMENT, NIGHT, x -> x.locked(0, what));
            refused("P36 locked: what " + what + " of no PAGE", INDEX, NIGHT, x -> x.locked(6, what));
        }
        int[] due = {2, 6, 4, 1, 20};
        for (int what = 0; what < 5; what++) {
            int w = what;
            answersAlone("P36 locked: what " + w, due[w], NIGHT, x -> x.locked(0, w));
        }
        answersAlone("P36 locked: it was not, its minute", NONE, NIGHT, x -> x.locked(3, 1));
    }

    private static void stands() {
        for (int page : NO_PAGES) {
            refused("P37 stands: PAGE " + page, INDEX, NIGHT, x -> x.stands(page, NONE, 0));
            refused("P37 stands: PAGE " + page + " of an EDITION", INDEX, NIGHT, x -> x.stands(page, 0, 0));
        }
        for (int edition : new int[] {-2, 1, 8, LEAST, MOST}) {
            refused("P37 stands: EDITION " + edition, INDEX, NIGHT, x -> x.stands(0, edition, 0));
        }
        for (int i : new int[] {-1, 2, 180, LEAST, MOST}) {
            answersAlone("P37 stands: SLUG " + i + " of two", NONE, NIGHT, x -> x.stands(0, NONE, i));
            answersAlone("P37 stands: SLUG " + i + " of two of an EDITION", NONE, NIGHT, x -> x.stands(0, 0, i));
        }
        answersAlone("P37 stands: SLUG 0 of two", 5, NIGHT, x -> x.stands(0, NONE, 0));
        answersAlone("P37 stands: SLUG 1 of two", 6, NIGHT, x -> x.stands(0, 0, 1));
        answersAlone("P37 stands: SLUG 0 of none", NONE, NIGHT, x -> x.stands(5, NONE, 0));
    }

    private static void edition() {
        refused("P38 edition: a 9th", UNSUPPORTED, Scenes::editions, x -> x.edition());
    }

    private static void changed() {
        for (int page : NO_PAGES) {
            refused("P39 changed: PAGE " + page, INDEX, NIGHT, x -> x.changed(page, 0, NONE));
        }
        for (int edition : new int[] {-2, 1, 8, LEAST, MOST}) {
            refused("P39 changed: from EDITION " + edition, INDEX, NIGHT, x -> x.changed(0, edition, NONE));
            refused("P39 changed: to EDITION " + edition, INDEX, NIGHT, x -> x.changed(0, NONE, edition));
            refused("P39 changed: from and to EDITION " + edition, INDEX, NIGHT, x -> x.changed(0, edition, edition));
        }
        answersAlone("P39 changed: from an EDITION to now", 2, NIGHT, x -> x.changed(1, 0, NONE));
        answersAlone("P39 changed: from now to an EDITION", 0, NIGHT, x -> x.changed(1, NONE, 0));
        answersAlone("P39 changed: from an EDITION to itself", 0, NIGHT, x -> x.changed(0, 0, 0));
        answersAlone("P39 changed: from now to now", 0, NIGHT, x -> x.changed(1, NONE, NONE));
    }

    private static void plans() {
        answersAlone("P40 least: nothing is changed by it", 0, NIGHT, x -> x.least());
        Scene broken = NIGHT.then(x -> x.broken(0, true));
        answersAlone("P40 least: a PART and no MACHINE", NONE, broken, x -> x.least());
        for (int machine : new int[] {-2, 2, 4, LEAST, MOST}) {
            refused("P41 ahead: MACHINE " + machine, INDEX, NIGHT, x -> x.ahead(machine));
        }
        answersAlone("P41 ahead: none, a BROKEN one has a JOB", NONE, NIGHT, x -> x.ahead(NONE));
        Scene mended = NIGHT.then(x -> x.broken(1, false));
        answersAlone("P41 ahead: nothing is changed by it", 9, mended, x -> x.ahead(NONE));
        answersAlone("P41 ahead: without MACHINE 0", NONE, mended, x -> x.ahead(0));
        answersAlone("P41 ahead: without MACHINE 1", NONE, mended, x -> x.ahead(1));
        for (int machine : new int[] {-1, 2, LEAST, MOST}) {
            refused("P42 pay: MACHINE " + machine, INDEX, NIGHT, x -> x.pay(machine, 0, 600));
            refused("P42 pay: MACHINE " + machine + " from behind", INDEX, NIGHT, x -> x.pay(machine, 6, 0));
        }
        answersAlone("P42 pay: all", 18, NIGHT, x -> x.pay(0, LEAST, MOST));
        answersAlone("P42 pay: from behind to ahead", 0, NIGHT, x -> x.pay(0, MOST, LEAST));
    }

    private static void rows() {
        for (int i : new int[] {-1, 6, 7, 8, LEAST, MOST}) {
            refused("P43 row: ROW " + i + " of six", NO_ELEMENT, NIGHT, x -> x.row(i, 0));
            refused("P44 tear: ROW " + i + " of six", NO_ELEMENT, NIGHT, x -> x.tear(i, 0, 1));
        }
        for (int machine : new int[] {-1, 4, LEAST, MOST}) {
            refused("P43 row: MACHINE " + machine, NO_ELEMENT, NIGHT, x -> x.row(0, machine));
            refused("P44 tear: MACHINE " + machine, NO_ELEMENT, NIGHT, x -> x.tear(5, machine, 1));
        }
        answersAlone("P43 row: the oldest", 0, NIGHT, x -> x.row(0, 0));
        answersAlone("P43 row: of a MACHINE that is not there", NONE, NIGHT, x -> x.row(5, 3));
        answersAlone("P44 tear: with a mask of 0", 3, NIGHT, x -> x.tear(1, 1, 0));
        answersAlone("P45 check: the first one that was TORN", 11, NIGHT, x -> x.check());
        answersAlone("P45 check: none of a new room", NONE, x -> x.end(0), x -> x.check());
        Scene newRoom = x -> x.machine(9, 0);
        refused("P43 row: ROW 0 of none", NO_ELEMENT, newRoom, x -> x.row(0, 0));
        refused("P44 tear: ROW 0 of none", NO_ELEMENT, newRoom, x -> x.tear(0, 0, 1));
        Scene late = NIGHT.then(x -> x.minutes(20));
        refused("P43 row: ROW 8 of eight", NO_ELEMENT, late, x -> x.row(8, 0));
        refused("P44 tear: ROW 8 of eight", NO_ELEMENT, late, x -> x.tear(8, 0, 1));
    }

    private static void images() {
        Scene never = x -> {
            Checks.story(x, 0, 0, "ab cd");
            x.machine(9, 0);
            x.give(0, 0);
            x.minutes(1);
            Checks.tell(x, "ef");
        };
        answersAlone("P47 back: none was kept", 0, never, x -> bit(x.back()));
        answersAlone("P47 back: from THE IMAGE itself", 1, never.then(x -> x.image()), x -> bit(x.back()));
        answersAlone("P47 back: twice", 1, NIGHT.then(x -> x.back()), x -> bit(x.back()));
    }

    private static void count() {
        for (int what : new int[] {-1, 15, LEAST, MOST}) {
            answersAlone("P48 count: what " + what, NONE, NIGHT, x -> x.count(what));
        }
        int[] due = {6, 4, 6, 2, 7, 5, 1, 1, 0, 1, 3, 1, 3, 2, 6};
        for (int what = 0; what < 15; what++) {
            int w = what;
            answersAlone("P48 count: what " + w, due[w], NIGHT, x -> x.count(w));
        }
    }
}
