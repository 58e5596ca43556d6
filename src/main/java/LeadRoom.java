import java.util.NoSuchElementException;

/** A composing room of a newspaper at night: copy, styles, machines, slugs, pages and plans. */
public final class LeadRoom {
    public static final int NONE = -1;

    private static final int LAST_MINUTE = 600;
    private static final int MOST_TAPE = 400;
    private static final int MOST_STORIES = 20;
    private static final int MOST_PARTS = 5;
    private static final int MOST_WORDS = 24;
    private static final int MOST_BITS = 40;
    private static final int MOST_BIT_LETTERS = 12;
    private static final int MOST_STYLES = 10;
    private static final int MOST_RULES = 12;
    private static final int MOST_DEPTH = 5;
    private static final int MOST_MACHINES = 4;
    private static final int MOST_JOBS = 30;
    private static final int MOST_SLUGS = 300;
    private static final int MOST_TELLINGS = 200;
    private static final int MOST_EDITIONS = 8;
    private static final int MOST_ROWS = 8;
    private static final int MOST_FITTED = 4;
    private static final int MOST_PLANNED = 5;
    private static final int PAGES = 6;
    private static final int FACES = 2;
    private static final int SIGNS = 27;
    private static final int HYPHEN = 26;
    /** Bytes that a LINE can say at most: 480 letters, 23 blanks and a -. */
    private static final int MOST_SAID = 512;
    /** The end of a JOB whose PART is not SET yet, so that its LINES are not known. */
    private static final int ALL_LINES = -1;
    private static final int LIES = 0;
    private static final int PIED = 1;
    private static final int POT = 2;

    private final byte[] tape = new byte[MOST_TAPE];
    private int tapeLength = 0;
    private int faultAt = NONE;
    private final StyleReader styleReader = new StyleReader(tape);
    private final Part sparePart = new Part();
    private final Room room = new Room();
    private final Desk desk = new Desk();
    private final Fitter fitter = new Fitter();
    private final Planner planner = new Planner();
    private Room keptRoom = null;
    private Desk keptDesk = null;
    private Room trialRoom = null;

    public LeadRoom() {
    }

    // ---- the TAPE, and what is read from it

    public int feed(int a, int b, int c, int d, int e) {
        if (tapeLength + 20 > MOST_TAPE) {
            return NONE;
        }
        feedNumber(a);
        feedNumber(b);
        feedNumber(c);
        feedNumber(d);
        feedNumber(e);
        return tapeLength;
    }

    private void feedNumber(int number) {
        for (int shift = 24; shift >= 0 && tapeLength < MOST_TAPE; shift -= 8) {
            tape[tapeLength] = (byte) (number >> shift);
            tapeLength++;
        }
    }

    public boolean end(int n) {
        if (n < 0 || n > tapeLength) {
            return false;
        }
        tapeLength = n;
        return true;
    }

    private int useTape() {
        int length = tapeLength;
        tapeLength = 0;
        return length;
    }

    public void width(int face, int sign, int n)
            throws IndexOutOfBoundsException, IllegalArgumentException {
        if (!isFace(face) || !isSign(sign)) {
            throw new IndexOutOfBoundsException();
        }
        if (n < 1 || n > 20) {
            throw new IllegalArgumentException();
        }
        room.widths[face * SIGNS + sign] = n;
    }

    public int story(int face, int due)
            throws IndexOutOfBoundsException, IllegalArgumentException, UnsupportedOperationException {
        int length = useTape();
        if (!isFace(face)) {
            throw new IndexOutOfBoundsException();
        }
        if (!isMinute(due)) {
            throw new IllegalArgumentException();
        }
        faultAt = CopyReader.firstWrong(tape, length, MOST_PARTS, MOST_WORDS, 0);
        if (faultAt != NONE) {
            throw new IllegalArgumentException();
        }
        if (room.stories >= MOST_STORIES) {
            throw new UnsupportedOperationException();
        }
        return room.addStory(tape, length, face, due);
    }

    public int style(int minute) throws IllegalArgumentException, UnsupportedOperationException {
        int length = useTape();
        if (minute < room.now || minute > LAST_MINUTE) {
            throw new IllegalArgumentException();
        }
        faultAt = styleReader.firstWrong(length);
        if (faultAt != NONE) {
            throw new IllegalArgumentException();
        }
        if (room.styleCount >= MOST_STYLES) {
            throw new UnsupportedOperationException();
        }
        room.addStyle(styleReader.into, minute);
        return styleReader.into.rules;
    }

    public int fault() {
        return faultAt;
    }

    // ---- PARTS and their LINES

    public int part(int part, int what) throws IndexOutOfBoundsException, NoSuchElementException {
        Part found = room.findPart(part);
        if (found == null) {
            throw new IndexOutOfBoundsException();
        }
        switch (what) {
            case 0:
                return found.words;
            case 1:
                return found.bits;
            case 2:
                return found.face;
            case 3:
                return found.due;
            case 4:
                return found.given ? 1 : 0;
            case 5:
                return found.isSet ? found.lines : NONE;
            case 6:
                return room.countRight(found);
            case 7:
                return room.countLost(part);
            default:
                throw new NoSuchElementException();
        }
    }

    public int rule(int part, int minute, int what)
            throws IndexOutOfBoundsException, IllegalArgumentException, NoSuchElementException {
        Part found = room.findPart(part);
        if (found == null) {
            throw new IndexOutOfBoundsException();
        }
        if (!isMinute(minute)) {
            throw new IllegalArgumentException();
        }
        Breaker breaker = room.breakerFor(found, minute);
        switch (what) {
            case 0:
                return breaker.measure;
            case 1:
                return breaker.leastSpace;
            case 2:
                return breaker.mostSpace;
            case 3:
                return breaker.cost;
            case 4:
                return breaker.fat;
            case 5:
                return breaker.measureRule;
            default:
                throw new NoSuchElementException();
        }
    }

    public int best(int part, int what) throws IndexOutOfBoundsException, NoSuchElementException {
        Part found = room.findPart(part);
        if (found == null) {
            throw new IndexOutOfBoundsException();
        }
        Breaker breaker = room.breakerFor(found, room.now);
        switch (what) {
            case 0:
                return breaker.solve(0);
            case 1:
                return breaker.solve(0) == NONE ? NONE : breaker.badnessFrom(0);
            case 2:
                return breaker.reach();
            default:
                throw new NoSuchElementException();
        }
    }

    public int ends(int part, int line) throws IndexOutOfBoundsException {
        Part found = room.findPart(part);
        if (found == null) {
            throw new IndexOutOfBoundsException();
        }
        if (found.isSet) {
            return found.hasLine(line) ? found.lineEnd[line] : NONE;
        }
        Breaker breaker = room.breakerFor(found, room.now);
        return breaker.solve(0) == NONE ? NONE : breaker.endOfLine(line);
    }

    public int hand(int part, boolean slack) throws IndexOutOfBoundsException {
        Part found = room.findPart(part);
        if (found == null) {
            throw new IndexOutOfBoundsException();
        }
        return room.breakerFor(found, room.now).byHand(slack);
    }

    // ---- MACHINES and MINUTES

    public int machine(int n, int back) throws IllegalArgumentException, UnsupportedOperationException {
        if (!isBrasses(n) || back < 0 || back > 9) {
            throw new IllegalArgumentException();
        }
        if (room.machineCount >= MOST_MACHINES) {
            throw new UnsupportedOperationException();
        }
        return room.addMachine(n, back);
    }

    public int brass(int machine, int sign, int n) throws IndexOutOfBoundsException, IllegalArgumentException {
        Machine found = room.findMachine(machine);
        if (found == null || !isSign(sign)) {
            throw new IndexOutOfBoundsException();
        }
        if (!isBrasses(n)) {
            throw new IllegalArgumentException();
        }
        found.brasses[sign] = n;
        room.countOut(machine, room.now - found.wayBack + 1, room.now);
        return Math.max(0, n - room.out[sign]);
    }

    public boolean broken(int machine, boolean is) throws IndexOutOfBoundsException {
        Machine found = room.findMachine(machine);
        if (found == null) {
            throw new IndexOutOfBoundsException();
        }
        boolean was = found.isBroken;
        found.isBroken = is;
        return was != is;
    }

    public int give(int part, int machine) throws IndexOutOfBoundsException, UnsupportedOperationException {
        Part found = room.findPart(part);
        Machine taker = room.findMachine(machine);
        if (found == null || taker == null) {
            throw new IndexOutOfBoundsException();
        }
        if (taker.jobs >= MOST_JOBS) {
            throw new UnsupportedOperationException();
        }
        if (found.given) {
            return NONE;
        }
        found.given = true;
        taker.addJob(part, 0, ALL_LINES, false);
        return taker.jobs;
    }

    public int minutes(int n) throws IllegalArgumentException {
        if (n < 0 || n > 120) {
            throw new IllegalArgumentException();
        }
        for (int i = 0; i < n && room.now < LAST_MINUTE; i++) {
            room.passMinute();
        }
        return room.now;
    }

    public int runs(int machine, int what) throws IndexOutOfBoundsException, NoSuchElementException {
        Machine found = room.findMachine(machine);
        if (found == null) {
            throw new IndexOutOfBoundsException();
        }
        switch (what) {
            case 0:
                return found.jobs;
            case 1:
                return found.linesCast;
            case 2:
                return found.waited;
            case 3:
                return found.spiked;
            case 4:
                return found.isBroken ? 1 : 0;
            case 5:
                return found.jobs == 0 ? NONE : found.jobPart[0];
            default:
                throw new NoSuchElementException();
        }
    }

    // ---- SLUGS

    public int slug(int slug, int what) throws IndexOutOfBoundsException, NoSuchElementException {
        Slug found = room.findSlug(slug);
        if (found == null) {
            throw new IndexOutOfBoundsException();
        }
        switch (what) {
            case 0:
                return found.part;
            case 1:
                return found.machine;
            case 2:
                return found.minute;
            case 3:
                return found.letters;
            case 4:
                return found.state;
            case 5:
                return found.place;
            case 6:
                return found.home;
            case 7:
                return found.isCorrected ? 1 : 0;
            case 8:
                return found.wrongLetters > 0 ? 1 : 0;
            case 9:
                return found.line;
            default:
                throw new NoSuchElementException();
        }
    }

    public int says(int slug, int i) throws IndexOutOfBoundsException {
        Slug found = room.findSlug(slug);
        if (found == null) {
            throw new IndexOutOfBoundsException();
        }
        return i < 0 || i >= found.length ? NONE : found.told[i];
    }

    public int lies(int part, int place) throws IndexOutOfBoundsException, IllegalStateException {
        Part found = room.findPart(part);
        if (found == null) {
            throw new IndexOutOfBoundsException();
        }
        if (!found.isSet) {
            throw new IllegalStateException();
        }
        if (!found.hasLine(place)) {
            throw new IndexOutOfBoundsException();
        }
        return found.place[place];
    }

    public int judge(int part) throws IndexOutOfBoundsException, IllegalStateException {
        Part found = room.findPart(part);
        if (found == null) {
            throw new IndexOutOfBoundsException();
        }
        if (!found.isSet) {
            throw new IllegalStateException();
        }
        return room.firstNotRight(found);
    }

    public boolean pie(int slug) throws IndexOutOfBoundsException {
        Slug found = room.findSlug(slug);
        if (found == null) {
            throw new IndexOutOfBoundsException();
        }
        if (found.state != LIES) {
            return false;
        }
        room.takeAway(found, PIED);
        return true;
    }

    public boolean change(int a, int b) throws IndexOutOfBoundsException {
        Slug one = room.findSlug(a);
        Slug other = room.findSlug(b);
        if (one == null || other == null) {
            throw new IndexOutOfBoundsException();
        }
        if (one.state != LIES || other.state != LIES) {
            return false;
        }
        int home = one.home;
        int place = one.place;
        room.layAt(a, other.home, other.place);
        room.layAt(b, home, place);
        return true;
    }

    public int again(int part, int place, int machine)
            throws IndexOutOfBoundsException, IllegalStateException, UnsupportedOperationException {
        Part found = room.findPart(part);
        Machine taker = room.findMachine(machine);
        if (found == null || taker == null) {
            throw new IndexOutOfBoundsException();
        }
        if (!found.isSet) {
            throw new IllegalStateException();
        }
        if (!found.hasLine(place)) {
            throw new IndexOutOfBoundsException();
        }
        if (taker.jobs >= MOST_JOBS) {
            throw new UnsupportedOperationException();
        }
        if (found.place[place] != NONE) {
            return NONE;
        }
        taker.addJob(part, place, place + 1, false);
        return taker.jobs;
    }

    public int correct(int part, int word, int machine)
            throws IndexOutOfBoundsException, IllegalArgumentException, IllegalStateException,
            UnsupportedOperationException {
        int length = useTape();
        Part found = room.findPart(part);
        Machine taker = room.findMachine(machine);
        if (found == null || taker == null || word < 0 || word >= found.words) {
            throw new IndexOutOfBoundsException();
        }
        int bitsAhead = found.bits - found.bitsOfWord(word);
        faultAt = CopyReader.firstWrong(tape, length, 1, 1, bitsAhead);
        if (faultAt != NONE) {
            throw new IllegalArgumentException();
        }
        if (found.isSet && room.isQueued(part)) {
            throw new IllegalStateException();
        }
        if (taker.jobs >= MOST_JOBS) {
            throw new UnsupportedOperationException();
        }
        sparePart.putWord(found, word, tape, length);
        return room.correctWith(part, word, sparePart, taker);
    }

    public boolean slip(int slug, int i, int letter) throws IndexOutOfBoundsException, IllegalArgumentException {
        Slug found = room.findSlug(slug);
        if (found == null) {
            throw new IndexOutOfBoundsException();
        }
        int at = found.byteOfLetter(i);
        if (at == NONE || letter < 0 || letter >= HYPHEN) {
            throw new IllegalArgumentException();
        }
        return found.tellLetter(at, 'a' + letter);
    }

    public boolean read(int reader, int slug) throws IndexOutOfBoundsException {
        Slug found = room.findSlug(slug);
        if (found == null || reader < 0 || reader > 1) {
            throw new IndexOutOfBoundsException();
        }
        int mark = 1 << reader;
        if ((found.marks & mark) != 0) {
            return false;
        }
        found.marks |= mark;
        return true;
    }

    public int proof(int what) throws NoSuchElementException {
        switch (what) {
            case 0:
                return room.countMarked(1);
            case 1:
                return room.countMarked(2);
            case 2:
                return room.countMarked(3);
            case 3:
                return room.missed();
            case 4:
                return room.countRead(true, false);
            case 5:
                return room.countRead(false, true);
            default:
                throw new NoSuchElementException();
        }
    }

    public int carry(int slug, int rack, int minute) throws IndexOutOfBoundsException, IllegalArgumentException {
        Slug found = room.findSlug(slug);
        if (found == null) {
            throw new IndexOutOfBoundsException();
        }
        if (rack < 0 || rack > 9 || minute < found.minute || minute > room.now) {
            throw new IllegalArgumentException();
        }
        if (desk.tellings >= MOST_TELLINGS) {
            return NONE;
        }
        desk.addTelling(slug, rack, minute, room.now);
        return desk.tellings;
    }

    public int where(int slug, int minute, int known) throws IndexOutOfBoundsException {
        if (room.findSlug(slug) == null) {
            throw new IndexOutOfBoundsException();
        }
        return desk.rackOf(slug, minute, known);
    }

    // ---- PAGES

    public void page(int page, int columns, int length)
            throws IndexOutOfBoundsException, IllegalArgumentException {
        if (!isPage(page)) {
            throw new IndexOutOfBoundsException();
        }
        if (columns < 1 || columns > 3 || length < 1 || length > 60) {
            throw new IllegalArgumentException();
        }
        desk.columns[page] = columns;
        desk.longs[page] = length;
    }

    public int fit(int page, int set)
            throws IndexOutOfBoundsException, IllegalArgumentException, IllegalStateException {
        findFit(page, set);
        return fitter.bestLines;
    }

    public int fits(int page, int set, int story, boolean kept)
            throws IndexOutOfBoundsException, IllegalArgumentException, IllegalStateException {
        if (story < 0 || story >= room.stories) {
            throw new IndexOutOfBoundsException();
        }
        findFit(page, set);
        int place = fitter.placeOf(story);
        if (fitter.bestLines == NONE || place == NONE) {
            return NONE;
        }
        return kept ? fitter.bestKeep[place] : fitter.bestColumn[place];
    }

    public int lock(int page, int set)
            throws IndexOutOfBoundsException, IllegalArgumentException, IllegalStateException {
        findFit(page, set);
        if (fitter.bestLines == NONE || !fitter.allRight(room)) {
            return NONE;
        }
        int row = desk.emptyRow(page);
        for (int column = 0; column < desk.columns[page]; column++) {
            for (int i = 0; i < fitter.many; i++) {
                if (fitter.bestColumn[i] == column) {
                    layStory(row, fitter.stories[i], fitter.bestKeep[i]);
                }
            }
        }
        desk.lockedAt[page] = room.now;
        desk.lateBy[page] = room.lateOf(page);
        return desk.sizes[row];
    }

    private void layStory(int row, int story, int keep) {
        for (int i = 0; i < keep; i++) {
            Part part = room.findPart(MOST_PARTS * story + i);
            if (part != null) {
                desk.layPart(row, part);
            }
        }
    }

    private void findFit(int page, int set) {
        if (!isPage(page) || (set >>> room.stories) != 0) {
            throw new IndexOutOfBoundsException();
        }
        int many = Integer.bitCount(set);
        if (many < 1 || many > MOST_FITTED) {
            throw new IllegalArgumentException();
        }
        for (int i = 0; i < room.stories; i++) {
            if ((set >> i & 1) != 0 && !room.isStorySet(i)) {
                throw new IllegalStateException();
            }
        }
        fitter.search(room, set, desk.columns[page], desk.longs[page]);
    }

    public int locked(int page, int what) throws IndexOutOfBoundsException, NoSuchElementException {
        if (!isPage(page)) {
            throw new IndexOutOfBoundsException();
        }
        switch (what) {
            case 0:
                return desk.sizes[page];
            case 1:
                return desk.lockedAt[page];
            case 2:
                return desk.lateBy[page];
            case 3:
                return desk.columns[page];
            case 4:
                return desk.longs[page];
            default:
                throw new NoSuchElementException();
        }
    }

    public int stands(int page, int edition, int i) throws IndexOutOfBoundsException {
        if (!isPage(page) || !isEdition(edition)) {
            throw new IndexOutOfBoundsException();
        }
        return desk.slugOn(PAGES * (edition + 1) + page, i);
    }

    public int edition() throws UnsupportedOperationException {
        if (desk.editions >= MOST_EDITIONS) {
            throw new UnsupportedOperationException();
        }
        return desk.addEdition();
    }

    public int changed(int page, int from, int to) throws IndexOutOfBoundsException {
        if (!isPage(page) || !isEdition(from) || !isEdition(to)) {
            throw new IndexOutOfBoundsException();
        }
        return desk.countNew(PAGES * (from + 1) + page, PAGES * (to + 1) + page);
    }

    // ---- PLANS

    public int least() {
        return planner.leastLate(room);
    }

    public int ahead(int machine) throws IndexOutOfBoundsException {
        if (machine != NONE && room.findMachine(machine) == null) {
            throw new IndexOutOfBoundsException();
        }
        if (trialRoom == null) {
            trialRoom = new Room();
        }
        trialRoom.takeAll(room);
        Machine out = trialRoom.findMachine(machine);
        if (out != null) {
            out.isBroken = true;
        }
        for (int i = room.now; i < LAST_MINUTE && trialRoom.canRun(); i++) {
            trialRoom.passMinute();
        }
        return trialRoom.countJobs() == 0 ? trialRoom.now : NONE;
    }

    public int pay(int machine, int from, int to) throws IndexOutOfBoundsException {
        if (room.findMachine(machine) == null) {
            throw new IndexOutOfBoundsException();
        }
        return room.payOf(machine, from, to);
    }

    // ---- ROWS, THE IMAGE and counts

    public int row(int i, int machine) throws NoSuchElementException {
        int at = room.rowPlace(i, machine);
        if (at == NONE) {
            throw new NoSuchElementException();
        }
        return room.rows[at];
    }

    public int tear(int i, int machine, int mask) throws NoSuchElementException {
        int at = room.rowPlace(i, machine);
        if (at == NONE) {
            throw new NoSuchElementException();
        }
        room.rows[at] ^= mask;
        return room.rows[at];
    }

    public int check() {
        for (int i = 0; i < room.rowCount(); i++) {
            for (int machine = 0; machine < MOST_MACHINES; machine++) {
                int at = room.rowPlace(i, machine);
                if (at != NONE && room.rows[at] != room.castThen[at]) {
                    return 4 * i + machine;
                }
            }
        }
        return NONE;
    }

    public void image() {
        if (keptRoom == null) {
            keptRoom = new Room();
        }
        if (keptDesk == null) {
            keptDesk = new Desk();
        }
        keptRoom.takeAll(room);
        keptDesk.takeAll(desk);
    }

    public boolean back() {
        if (keptRoom == null || keptDesk == null) {
            return false;
        }
        room.takeAll(keptRoom);
        desk.takeAll(keptDesk);
        return true;
    }

    public int count(int what) {
        switch (what) {
            case 0:
                return room.now;
            case 1:
                return room.stories;
            case 2:
                return room.rulesNow();
            case 3:
                return room.machineCount;
            case 4:
                return room.slugCount;
            case 5:
                return room.countState(LIES);
            case 6:
                return room.countState(PIED);
            case 7:
                return room.countState(POT);
            case 8:
                return room.countCorrected();
            case 9:
                return room.countRead(true, true) + room.countRead(false, true);
            case 10:
                return desk.tellings;
            case 11:
                return desk.editions;
            case 12:
                return room.countJobs();
            case 13:
                return room.styleCount;
            case 14:
                return room.rowCount();
            default:
                return NONE;
        }
    }

    private static boolean isFace(int face) {
        return face >= 0 && face < FACES;
    }

    private static boolean isSign(int sign) {
        return sign >= 0 && sign < SIGNS;
    }

    private static boolean isMinute(int minute) {
        return minute >= 0 && minute <= LAST_MINUTE;
    }

    private static boolean isBrasses(int n) {
        return n >= 0 && n <= 40;
    }

    private static boolean isPage(int page) {
        return page >= 0 && page < PAGES;
    }

    private boolean isEdition(int edition) {
        return edition >= NONE && edition < desk.editions;
    }

    private static void copyFlags(boolean[] from, boolean[] to) {
        for (int i = 0; i < from.length && i < to.length; i++) {
            to[i] = from[i];
        }
    }

    /** Looks for the first wrong byte of copy. */
    private static final class CopyReader {
        private CopyReader() {
        }

        /** The first wrong byte, or NONE; the copy's first PART has so many BITS besides. */
        static int firstWrong(byte[] text, int length, int mostParts, int mostWords, int bitsAhead) {
            int parts = 1;
            int words = 0;
            int bits = bitsAhead;
            int run = 0;
            boolean behindHyphen = false;
            for (int i = 0; i < length && i < text.length; i++) {
                int c = text[i];
                if (isLetter(c)) {
                    if (run == 0) {
                        words += behindHyphen ? 0 : 1;
                        bits++;
                    }
                    run++;
                    behindHyphen = false;
                    if (words > mostWords || bits > MOST_BITS || run > MOST_BIT_LETTERS) {
                        return i;
                    }
                    continue;
                }
                if (behindHyphen) {
                    return i;
                }
                if (c == '-' && run > 0) {
                    behindHyphen = true;
                } else if (c == '/' && words > 0 && parts < mostParts) {
                    parts++;
                    words = 0;
                    bits = 0;
                } else if (c != ' ') {
                    return i;
                }
                run = 0;
            }
            return behindHyphen || words == 0 ? length : NONE;
        }

        static boolean isLetter(int c) {
            return c >= 'a' && c <= 'z';
        }
    }

    /** The copy of a PART, and its LINES and PLACES when it is SET. */
    private static final class Part {
        final byte[] signs = new byte[MOST_BITS * MOST_BIT_LETTERS];
        /** The signs of BIT b are those from begin[b] up to begin[b + 1]. */
        final int[] begin = new int[MOST_BITS + 1];
        /** Whether a BIT is the last one of its WORD. */
        final boolean[] closing = new boolean[MOST_BITS];
        final int[] lineEnd = new int[MOST_BITS];
        /** The SLUG that lies at the PLACE of a LINE. */
        final int[] place = new int[MOST_BITS];
        int bits = 0;
        int words = 0;
        int face = 0;
        int due = 0;
        int lines = 0;
        boolean given = false;
        boolean isSet = false;

        void takeAll(Part other) {
            takeCopy(other);
            takeLines(other);
            face = other.face;
            due = other.due;
            given = other.given;
            isSet = other.isSet;
        }

        void takeCopy(Part other) {
            System.arraycopy(other.signs, 0, signs, 0, signs.length);
            System.arraycopy(other.begin, 0, begin, 0, begin.length);
            copyFlags(other.closing, closing);
            bits = other.bits;
            words = other.words;
        }

        void takeLines(Part other) {
            System.arraycopy(other.lineEnd, 0, lineEnd, 0, lineEnd.length);
            System.arraycopy(other.place, 0, place, 0, place.length);
            lines = other.lines;
        }

        void empty(int itsFace, int itsDue) {
            bits = 0;
            words = 0;
            face = itsFace;
            due = itsDue;
            lines = 0;
            given = false;
            isSet = false;
        }

        /** Adds the WORDS of a text that was found right. */
        void addText(byte[] text, int from, int to) {
            int end = begin[bits];
            int run = 0;
            for (int i = from; i < to && i < text.length; i++) {
                int c = text[i];
                if (CopyReader.isLetter(c)) {
                    if (end + run < signs.length) {
                        signs[end + run] = (byte) (c - 'a');
                    }
                    run++;
                } else if (run > 0) {
                    addBit(end + run, c != '-');
                    end += run;
                    run = 0;
                }
            }
            if (run > 0) {
                addBit(end + run, true);
            }
        }

        private void addBit(int end, boolean closesWord) {
            if (bits >= MOST_BITS || end > signs.length) {
                return;
            }
            closing[bits] = closesWord;
            bits++;
            begin[bits] = end;
            words += closesWord ? 1 : 0;
        }

        private void addBits(Part other, int from, int to) {
            for (int bit = from; bit < to && bit < other.bits; bit++) {
                int end = begin[bits];
                int many = other.begin[bit + 1] - other.begin[bit];
                for (int i = 0; i < many && end + i < signs.length; i++) {
                    signs[end + i] = other.signs[other.begin[bit] + i];
                }
                addBit(end + many, other.closing[bit]);
            }
        }

        /** The copy of another PART, with a text in place of one of its WORDS. */
        void putWord(Part old, int word, byte[] text, int length) {
            empty(old.face, old.due);
            int first = old.firstBit(word);
            addBits(old, 0, first);
            addText(text, 0, length);
            addBits(old, first + old.bitsOfWord(word), old.bits);
        }

        int firstBit(int word) {
            int ahead = 0;
            for (int bit = 0; bit < bits; bit++) {
                if (ahead == word) {
                    return bit;
                }
                ahead += closing[bit] ? 1 : 0;
            }
            return bits;
        }

        int bitsOfWord(int word) {
            return firstBit(word + 1) - firstBit(word);
        }

        boolean hasLine(int line) {
            return line >= 0 && line < lines;
        }

        int lineOf(int bit) {
            for (int line = 0; line < lines; line++) {
                if (lineEnd[line] >= bit) {
                    return line;
                }
            }
            return lines;
        }

        int firstBitOfLine(int line) {
            return line > 0 && line <= lines ? lineEnd[line - 1] + 1 : 0;
        }

        /** Writes what a LINE SAYS: how many bytes that are. */
        int spell(int line, byte[] text) {
            if (!hasLine(line)) {
                return 0;
            }
            int last = Math.min(lineEnd[line], bits - 1);
            int length = 0;
            for (int bit = firstBitOfLine(line); bit <= last; bit++) {
                for (int i = begin[bit]; i < begin[bit + 1] && length < text.length; i++) {
                    text[length] = (byte) ('a' + signs[i]);
                    length++;
                }
                boolean blank = bit < last && closing[bit];
                boolean hyphen = bit == last && !closing[bit];
                if ((blank || hyphen) && length < text.length) {
                    text[length] = (byte) (blank ? ' ' : '-');
                    length++;
                }
            }
            return length;
        }
    }

    /** A LINE that was cast. */
    private static final class Slug {
        byte[] cast = new byte[32];
        byte[] told = new byte[32];
        int length = 0;
        int letters = 0;
        int wrongLetters = 0;
        int part = NONE;
        int face = 0;
        int line = 0;
        int machine = 0;
        int minute = 0;
        int state = LIES;
        int place = NONE;
        int home = NONE;
        int marks = 0;
        boolean isCorrected = false;

        void takeAll(Slug other) {
            takeText(other.cast, other.length);
            System.arraycopy(other.told, 0, told, 0, length);
            wrongLetters = other.wrongLetters;
            part = other.part;
            face = other.face;
            line = other.line;
            machine = other.machine;
            minute = other.minute;
            state = other.state;
            place = other.place;
            home = other.home;
            marks = other.marks;
            isCorrected = other.isCorrected;
        }

        void takeText(byte[] text, int many) {
            length = Math.max(0, Math.min(many, text.length));
            if (cast.length < length || told.length < length) {
                cast = new byte[roomFor(length)];
                told = new byte[roomFor(length)];
            }
            System.arraycopy(text, 0, cast, 0, length);
            System.arraycopy(text, 0, told, 0, length);
            letters = 0;
            for (int i = 0; i < length; i++) {
                letters += cast[i] == ' ' ? 0 : 1;
            }
            wrongLetters = 0;
            marks = 0;
        }

        private static int roomFor(int length) {
            int size = 32;
            while (size < length && size < MOST_SAID) {
                size *= 2;
            }
            return Math.max(size, length);
        }

        /** The byte that letter i is, blanks and - not counted; NONE. */
        int byteOfLetter(int i) {
            int ahead = 0;
            for (int at = 0; at < length; at++) {
                if (CopyReader.isLetter(told[at])) {
                    if (ahead == i) {
                        return at;
                    }
                    ahead++;
                }
            }
            return NONE;
        }

        boolean tellLetter(int at, int letter) {
            if (at < 0 || at >= length || told[at] == letter) {
                return false;
            }
            wrongLetters -= told[at] == cast[at] ? 0 : 1;
            told[at] = (byte) letter;
            wrongLetters += told[at] == cast[at] ? 0 : 1;
            return true;
        }

        boolean saysText(byte[] text, int many) {
            return sameBytes(told, length, text, many);
        }

        static boolean sameBytes(byte[] a, int aLength, byte[] b, int bLength) {
            if (aLength != bLength || aLength > a.length || bLength > b.length) {
                return false;
            }
            for (int i = 0; i < aLength; i++) {
                if (a[i] != b[i]) {
                    return false;
                }
            }
            return true;
        }
    }

    /** RULES that are in force from a minute on; their conditions stand in postfix order. */
    private static final class Style {
        static final int MEASURE = 0;
        static final int SPACE = 1;
        static final int PART = 2;
        static final int FAT = 3;
        static final int PAY = 4;
        static final int FREE = 5;
        static final int CLOSE = 6;
        static final int HEAD = 0;
        static final int LATE = 1;
        static final int CORRECTED = 2;
        static final int WORDS = 3;
        static final int BITS = 4;
        static final int DUE = 5;
        static final int MINUTE = 6;
        static final int LETTERS = 7;
        static final int MACHINE = 8;
        /** How many FACTS there are; the first three are TAGS. */
        static final int FACTS = 9;
        /** A code is 32 times a number and an operation: a FACT's own is for "is above 0". */
        static final int BELOW = 9;
        static final int ABOVE = 18;
        static final int AND = 27;
        static final int OR = 28;
        static final int NOT = 29;

        int minute = 0;
        int rules = 0;
        final int[] kind = new int[MOST_RULES];
        final int[] first = new int[MOST_RULES];
        final int[] second = new int[MOST_RULES];
        final int[] codeEnd = new int[MOST_RULES];
        final int[] code = new int[256];
        /** Whether a RULE holds for what was weighed last. */
        private final boolean[] holds = new boolean[MOST_RULES];
        private final boolean[] stack = new boolean[64];

        void takeAll(Style other) {
            minute = other.minute;
            rules = other.rules;
            System.arraycopy(other.kind, 0, kind, 0, kind.length);
            System.arraycopy(other.first, 0, first, 0, first.length);
            System.arraycopy(other.second, 0, second, 0, second.length);
            System.arraycopy(other.codeEnd, 0, codeEnd, 0, codeEnd.length);
            System.arraycopy(other.code, 0, code, 0, code.length);
        }

        void addRule(int itsKind, int itsFirst, int itsSecond) {
            if (rules >= MOST_RULES) {
                return;
            }
            kind[rules] = itsKind;
            first[rules] = itsFirst;
            second[rules] = itsSecond;
            codeEnd[rules] = rules == 0 ? 0 : codeEnd[rules - 1];
            rules++;
        }

        /** Adds to the condition of the latest RULE. */
        void addCode(int operation, int number) {
            if (rules == 0 || codeEnd[rules - 1] >= code.length) {
                return;
            }
            code[codeEnd[rules - 1]] = 32 * number + operation;
            codeEnd[rules - 1]++;
        }

        /** Finds which RULES hold for a PART or a SLUG. */
        void weigh(int[] facts) {
            int from = 0;
            for (int rule = 0; rule < rules; rule++) {
                int depth = 0;
                for (int i = from; i < codeEnd[rule] && i < code.length; i++) {
                    depth = depthAfter(code[i], facts, depth);
                }
                // a RULE without a condition leaves nothing on the stack
                holds[rule] = depth == 0 || stack[0];
                from = codeEnd[rule];
            }
        }

        /** The last RULE of a kind that holds for what was weighed, or NONE. */
        int lastThatHolds(int itsKind) {
            for (int i = rules - 1; i >= 0; i--) {
                if (kind[i] == itsKind && holds[i]) {
                    return i;
                }
            }
            return NONE;
        }

        int lastClose(int page) {
            for (int i = rules - 1; i >= 0; i--) {
                if (kind[i] == CLOSE && first[i] == page) {
                    return second[i];
                }
            }
            return NONE;
        }

        private int depthAfter(int entry, int[] facts, int depth) {
            int operation = entry & 31;
            if (operation == NOT && depth >= 1) {
                stack[depth - 1] = !stack[depth - 1];
                return depth;
            }
            if (operation == AND && depth >= 2) {
                stack[depth - 2] = stack[depth - 2] && stack[depth - 1];
                return depth - 1;
            }
            if (operation == OR && depth >= 2) {
                stack[depth - 2] = stack[depth - 2] || stack[depth - 1];
                return depth - 1;
            }
            if (operation >= AND || depth >= stack.length) {
                return depth;
            }
            stack[depth] = isTrue(operation, entry >> 5, facts);
            return depth + 1;
        }

        private static boolean isTrue(int operation, int number, int[] facts) {
            int fact = operation % FACTS;
            if (fact < 0 || fact >= facts.length) {
                return false;
            }
            if (operation >= ABOVE) {
                return facts[fact] > number;
            }
            if (operation >= BELOW) {
                return facts[fact] < number;
            }
            return facts[fact] > 0;
        }
    }

    /** Reads a text of RULES, up to its first wrong byte. */
    private static final class StyleReader {
        private final byte[] text;
        private int length = 0;
        private int at = 0;
        private int wrong = NONE;
        /** From each byte on, and from the text's end, the first one that is no blank. */
        private final int[] inkFrom = new int[MOST_TAPE + 1];
        /** What was read last, right up to the first wrong byte. */
        final Style into = new Style();

        StyleReader(byte[] itsText) {
            text = itsText;
        }

        /** The first wrong byte of the text, or NONE. */
        int firstWrong(int itsLength) {
            into.rules = 0;
            length = Math.min(itsLength, text.length);
            at = 0;
            wrong = NONE;
            findInk();
            boolean more = inkFrom[0] < length;
            for (int i = 0; more && i < MOST_RULES; i++) {
                more = readRule() && anotherFollows();
            }
            return wrong;
        }

        private void findInk() {
            inkFrom[length] = length;
            for (int i = length - 1; i >= 0; i--) {
                inkFrom[i] = text[i] == ' ' ? inkFrom[i + 1] : i;
            }
        }

        private boolean anotherFollows() {
            if (inkFrom[at] >= length) {
                return false;
            }
            if (!takeSign(';')) {
                return failHere();
            }
            return into.rules < MOST_RULES || failHere();
        }

        private boolean readRule() {
            if (takeWord("measure")) {
                return readNumbered(Style.MEASURE, 10, 400) && (!takeWord("if") || either(0));
            }
            if (takeWord("space")) {
                return readSpace();
            }
            if (takeWord("part")) {
                return readNumbered(Style.PART, 0, 999);
            }
            if (takeWord("fat")) {
                return readNumbered(Style.FAT, 0, 99);
            }
            if (takeWord("pay")) {
                return readNumbered(Style.PAY, 0, 999) && (!takeWord("if") || either(0));
            }
            if (takeWord("free")) {
                into.addRule(Style.FREE, 0, 0);
                return takeWord("if") ? either(0) : failHere();
            }
            return takeWord("close") ? readClose() : failHere();
        }

        private boolean readNumbered(int kind, int from, int to) {
            int number = takeNumber(from, to);
            into.addRule(kind, number, 0);
            return number != NONE;
        }

        private boolean readSpace() {
            int first = takeNumber(1, 40);
            if (first == NONE) {
                return false;
            }
            int second = takeNumber(first, 40);
            into.addRule(Style.SPACE, first, second);
            return second != NONE;
        }

        private boolean readClose() {
            int page = takeNumber(0, PAGES - 1);
            if (page == NONE) {
                return false;
            }
            if (!takeWord("at")) {
                return failHere();
            }
            int minute = takeNumber(0, LAST_MINUTE);
            into.addRule(Style.CLOSE, page, minute);
            return minute != NONE;
        }

        /** C; the depth is how many ( and not stand open round it. */
        private boolean either(int depth) {
            if (!every(depth)) {
                return false;
            }
            for (int i = 0; i < length && takeWord("or"); i++) {
                if (!every(depth)) {
                    return false;
                }
                into.addCode(Style.OR, 0);
            }
            return true;
        }

        private boolean every(int depth) {
            if (!atom(depth)) {
                return false;
            }
            for (int i = 0; i < length && takeWord("and"); i++) {
                if (!atom(depth)) {
                    return false;
                }
                into.addCode(Style.AND, 0);
            }
            return true;
        }

        private boolean atom(int depth) {
            int from = inkFrom[at];
            boolean isNot = takeWord("not");
            if (!isNot && !takeSign('(')) {
                return tagOrComparison(takeFact());
            }
            if (depth >= MOST_DEPTH) {
                at = from;
                return failHere();
            }
            if (isNot) {
                boolean right = atom(depth + 1);
                into.addCode(Style.NOT, 0);
                return right;
            }
            return either(depth + 1) && (takeSign(')') || failHere());
        }

        private int takeFact() {
            if (takeWord("head")) {
                return Style.HEAD;
            }
            if (takeWord("late")) {
                return Style.LATE;
            }
            if (takeWord("corrected")) {
                return Style.CORRECTED;
            }
            if (takeWord("words")) {
                return Style.WORDS;
            }
            if (takeWord("bits")) {
                return Style.BITS;
            }
            if (takeWord("due")) {
                return Style.DUE;
            }
            if (takeWord("minute")) {
                return Style.MINUTE;
            }
            if (takeWord("letters")) {
                return Style.LETTERS;
            }
            return takeWord("machine") ? Style.MACHINE : NONE;
        }

        private boolean tagOrComparison(int fact) {
            if (fact == NONE) {
                return failHere();
            }
            if (fact <= Style.CORRECTED) {
                into.addCode(fact, 0);
                return true;
            }
            boolean below = takeSign('<');
            if (!below && !takeSign('>')) {
                return failHere();
            }
            int number = takeNumber(0, 9999);
            into.addCode(fact + (below ? Style.BELOW : Style.ABOVE), number);
            return number != NONE;
        }

        private boolean failHere() {
            if (wrong == NONE) {
                wrong = inkFrom[at];
            }
            return false;
        }

        private boolean takeSign(int sign) {
            at = inkFrom[at];
            if (at >= length || text[at] != sign) {
                return false;
            }
            at++;
            return true;
        }

        /** Takes this word, if the letters go on just as far as it is long. */
        private boolean takeWord(String word) {
            at = inkFrom[at];
            int end = at + word.length();
            boolean goesOn = end < length && text[end] >= 'a' && text[end] <= 'z';
            if (end > length || goesOn) {
                return false;
            }
            for (int i = at; i < end; i++) {
                if (text[i] != word.charAt(i - at)) {
                    return false;
                }
            }
            at = end;
            return true;
        }

        private int takeNumber(int from, int to) {
            at = inkFrom[at];
            int number = 0;
            int end = at;
            while (end < length && text[end] >= '0' && text[end] <= '9') {
                // a number of more digits is wrong, so that its value does not matter
                number = end - at < 4 ? 10 * number + text[end] - '0' : 0;
                end++;
            }
            if (end == at || end - at > 4 || number < from || number > to) {
                wrong = at;
                return NONE;
            }
            at = end;
            return number;
        }
    }

    /** Breaks the PIECES of one PART into LINES, by the RULES that hold for it. */
    private static final class Breaker {
        int measure = 0;
        int measureRule = NONE;
        int leastSpace = 0;
        int mostSpace = 0;
        int cost = 0;
        int fat = 0;
        private int bits = 0;
        private int hyphenWidth = 0;
        /** Of the first so many BITS: their WIDTHS, and how many WORDS end in them. */
        private final int[] wide = new int[MOST_BITS + 1];
        private final int[] wordEnds = new int[MOST_BITS + 1];
        /** Of the best way from a BIT on; NONE lines without one. */
        private final int[] badness = new int[MOST_BITS + 1];
        private final int[] lines = new int[MOST_BITS + 1];
        private final int[] lineEnd = new int[MOST_BITS + 1];
        private final boolean[] reached = new boolean[MOST_BITS + 1];

        void loadCopy(Part part, int[] widths) {
            int from = part.face * SIGNS;
            bits = part.bits;
            hyphenWidth = widthOf(widths, from + HYPHEN);
            for (int bit = 0; bit < bits; bit++) {
                int sum = wide[bit];
                for (int i = part.begin[bit]; i < part.begin[bit + 1]; i++) {
                    sum += widthOf(widths, from + part.signs[i]);
                }
                wide[bit + 1] = sum;
                wordEnds[bit + 1] = wordEnds[bit] + (part.closing[bit] ? 1 : 0);
            }
        }

        private static int widthOf(int[] widths, int at) {
            return at >= 0 && at < widths.length ? widths[at] : 0;
        }

        /** Takes what holds of a STYLE that was weighed for the PART. */
        void loadRules(Style style) {
            measureRule = style.lastThatHolds(Style.MEASURE);
            measure = measureRule == NONE ? 60 : style.first[measureRule];
            int space = style.lastThatHolds(Style.SPACE);
            leastSpace = space == NONE ? 2 : style.first[space];
            mostSpace = space == NONE ? 6 : style.second[space];
            int parted = style.lastThatHolds(Style.PART);
            cost = parted == NONE ? 25 : style.first[parted];
            int fatRule = style.lastThatHolds(Style.FAT);
            fat = fatRule == NONE ? 0 : style.first[fatRule];
        }

        /** What MEASURE has more than a LINE is wide with its least spaces. */
        private int spare(int first, int last) {
            int hyphen = wordEnds[last + 1] == wordEnds[last] ? hyphenWidth : 0;
            int gaps = wordEnds[last] - wordEnds[first];
            return measure - (wide[last + 1] - wide[first] + hyphen + gaps * leastSpace);
        }

        /** BADNESS of a LINE, or NONE if it does not stand. */
        private int lineBadness(int first, int last) {
            int spare = spare(first, last);
            if (spare < 0) {
                return NONE;
            }
            if (last == bits - 1) {
                return 0;
            }
            int gaps = wordEnds[last] - wordEnds[first];
            if (spare > gaps * (mostSpace - leastSpace)) {
                return NONE;
            }
            boolean parted = wordEnds[last + 1] == wordEnds[last];
            return spare * spare + (parted ? cost : 0);
        }

        /** Finds the best way from a BIT on: how many LINES, or NONE. */
        int solve(int from) {
            badness[bits] = 0;
            lines[bits] = 0;
            for (int first = bits - 1; first >= from; first--) {
                solveAt(first);
            }
            return lines[from];
        }

        private void solveAt(int first) {
            lines[first] = NONE;
            for (int last = first; last < bits; last++) {
                int own = lineBadness(first, last);
                if (own == NONE || lines[last + 1] == NONE) {
                    continue;
                }
                int sum = own + badness[last + 1];
                int many = 1 + lines[last + 1];
                boolean better = lines[first] == NONE || sum < badness[first]
                        || sum == badness[first] && many <= lines[first];
                // of ways as good as one another the longest first LINE comes last
                if (better) {
                    badness[first] = sum;
                    lines[first] = many;
                    lineEnd[first] = last;
                }
            }
        }

        int badnessFrom(int bit) {
            return badness[bit];
        }

        /** The last BIT of a LINE of the way that was solved from the first BIT on, or NONE. */
        int endOfLine(int line) {
            int bit = 0;
            for (int i = 0; i < lines[0]; i++) {
                if (i == line) {
                    return lineEnd[bit];
                }
                bit = lineEnd[bit] + 1;
            }
            return NONE;
        }

        /** Puts the LINES of the way solved from a BIT on behind a PART's first so many LINES. */
        void putLines(Part part, int linesAhead, int from) {
            int line = linesAhead;
            for (int bit = from; bit < bits && line < MOST_BITS; bit = lineEnd[bit] + 1) {
                part.lineEnd[line] = lineEnd[bit];
                part.place[line] = NONE;
                line++;
            }
            part.lines = line;
        }

        int reach() {
            int far = 0;
            for (int i = 0; i <= bits; i++) {
                reached[i] = i == 0;
            }
            for (int first = 0; first < bits; first++) {
                for (int last = first; reached[first] && last < bits; last++) {
                    if (lineBadness(first, last) != NONE) {
                        reached[last + 1] = true;
                        far = Math.max(far, last + 1);
                    }
                }
            }
            return far;
        }

        /** How many LINES BY HAND, or how many of them do not stand; NONE. */
        int byHand(boolean slack) {
            int first = 0;
            int many = 0;
            int notStanding = 0;
            while (first < bits && many < MOST_BITS) {
                int last = longestFrom(first);
                if (last == NONE) {
                    return NONE;
                }
                many++;
                notStanding += lineBadness(first, last) == NONE ? 1 : 0;
                first = last + 1;
            }
            return slack ? notStanding : many;
        }

        private int longestFrom(int first) {
            int longest = NONE;
            for (int last = first; last < bits; last++) {
                // one PIECE more may be less wide, where the - falls away
                if (spare(first, last) >= 0) {
                    longest = last;
                }
            }
            return longest;
        }
    }

    /** A MACHINE and its QUEUE of JOBS. */
    private static final class Machine {
        final int[] brasses = new int[SIGNS];
        int wayBack = 0;
        boolean isBroken = false;
        int jobs = 0;
        int linesCast = 0;
        int waited = 0;
        int spiked = 0;
        /** Of each JOB its PART, its next LINE, the LINE behind its last one. */
        final int[] jobPart = new int[MOST_JOBS];
        final int[] jobNext = new int[MOST_JOBS];
        final int[] jobEnd = new int[MOST_JOBS];
        final boolean[] jobCorrected = new boolean[MOST_JOBS];

        void empty(int n, int itsBack) {
            for (int sign = 0; sign < SIGNS; sign++) {
                brasses[sign] = n;
            }
            wayBack = itsBack;
            isBroken = false;
            jobs = 0;
            linesCast = 0;
            waited = 0;
            spiked = 0;
        }

        void takeAll(Machine other) {
            System.arraycopy(other.brasses, 0, brasses, 0, brasses.length);
            System.arraycopy(other.jobPart, 0, jobPart, 0, jobPart.length);
            System.arraycopy(other.jobNext, 0, jobNext, 0, jobNext.length);
            System.arraycopy(other.jobEnd, 0, jobEnd, 0, jobEnd.length);
            copyFlags(other.jobCorrected, jobCorrected);
            wayBack = other.wayBack;
            isBroken = other.isBroken;
            jobs = other.jobs;
            linesCast = other.linesCast;
            waited = other.waited;
            spiked = other.spiked;
        }

        void addJob(int part, int next, int end, boolean corrected) {
            if (jobs >= MOST_JOBS) {
                return;
            }
            jobPart[jobs] = part;
            jobNext[jobs] = next;
            jobEnd[jobs] = end;
            jobCorrected[jobs] = corrected;
            jobs++;
        }

        void dropJob() {
            for (int i = 1; i < jobs; i++) {
                jobPart[i - 1] = jobPart[i];
                jobNext[i - 1] = jobNext[i];
                jobEnd[i - 1] = jobEnd[i];
                jobCorrected[i - 1] = jobCorrected[i];
            }
            jobs = Math.max(0, jobs - 1);
        }

        void spike() {
            dropJob();
            spiked++;
        }

        boolean cannotCast(int[] need) {
            for (int sign = 0; sign < SIGNS; sign++) {
                if (need[sign] > brasses[sign]) {
                    return true;
                }
            }
            return false;
        }

        /** Whether a LINE needs more of some SIGN than there are besides those that are out. */
        boolean isShort(int[] need, int[] out) {
            for (int sign = 0; sign < SIGNS; sign++) {
                if (need[sign] > Math.max(0, brasses[sign] - out[sign])) {
                    return true;
                }
            }
            return false;
        }

        boolean hasJobOf(int part) {
            for (int i = 0; i < jobs; i++) {
                if (jobPart[i] == part) {
                    return true;
                }
            }
            return false;
        }
    }

    /** All that stands in the room but pages and tellings. */
    private static final class Room {
        private static final int ROW_NUMBERS = MOST_ROWS * MOST_MACHINES;

        int now = 0;
        final int[] widths = new int[FACES * SIGNS];
        final Style[] styles = new Style[MOST_STYLES];
        int styleCount = 0;
        private final Style noRules = new Style();
        final Part[] parts = new Part[MOST_STORIES * MOST_PARTS];
        final int[] sizes = new int[MOST_STORIES];
        int stories = 0;
        final Machine[] machines = new Machine[MOST_MACHINES];
        int machineCount = 0;
        final Slug[] slugs = new Slug[MOST_SLUGS];
        int slugCount = 0;
        /** What ROWS tell, and what was cast; a minute has the same place in both. */
        final int[] rows = new int[ROW_NUMBERS];
        final int[] castThen = new int[ROW_NUMBERS];
        final Breaker breaker = new Breaker();
        private final int[] facts = new int[Style.FACTS];
        final int[] out = new int[SIGNS];
        private final int[] need = new int[SIGNS];
        private final byte[] text = new byte[MOST_SAID];
        private final byte[] otherText = new byte[MOST_SAID];

        Room() {
            for (int i = 0; i < widths.length; i++) {
                widths[i] = 4;
            }
        }

        void takeAll(Room other) {
            now = other.now;
            System.arraycopy(other.widths, 0, widths, 0, widths.length);
            System.arraycopy(other.sizes, 0, sizes, 0, sizes.length);
            System.arraycopy(other.rows, 0, rows, 0, rows.length);
            System.arraycopy(other.castThen, 0, castThen, 0, castThen.length);
            stories = other.stories;
            styleCount = other.styleCount;
            machineCount = other.machineCount;
            slugCount = other.slugCount;
            for (int i = 0; i < styleCount; i++) {
                ownStyle(i).takeAll(other.ownStyle(i));
            }
            for (int i = 0; i < machineCount; i++) {
                ownMachine(i).takeAll(other.ownMachine(i));
            }
            for (int i = 0; i < slugCount; i++) {
                ownSlug(i).takeAll(other.ownSlug(i));
            }
            for (int i = 0; i < parts.length; i++) {
                Part part = other.findPart(i);
                if (part != null) {
                    ownPart(i).takeAll(part);
                }
            }
        }

        // The own ones are made when they are first asked for, and used again then.

        private Style ownStyle(int i) {
            if (i < 0 || i >= styles.length) {
                return noRules;
            }
            if (styles[i] == null) {
                styles[i] = new Style();
            }
            return styles[i];
        }

        private Part ownPart(int i) {
            if (i < 0 || i >= parts.length) {
                return new Part();
            }
            if (parts[i] == null) {
                parts[i] = new Part();
            }
            return parts[i];
        }

        private Machine ownMachine(int i) {
            if (i < 0 || i >= machines.length) {
                return new Machine();
            }
            if (machines[i] == null) {
                machines[i] = new Machine();
            }
            return machines[i];
        }

        private Slug ownSlug(int i) {
            if (i < 0 || i >= slugs.length) {
                return new Slug();
            }
            if (slugs[i] == null) {
                slugs[i] = new Slug();
            }
            return slugs[i];
        }

        Part findPart(int part) {
            if (part < 0 || part >= MOST_PARTS * stories || part >= parts.length) {
                return null;
            }
            return part % MOST_PARTS < sizes[part / MOST_PARTS] ? parts[part] : null;
        }

        Machine findMachine(int machine) {
            return machine < 0 || machine >= machineCount ? null : machines[machine];
        }

        Slug findSlug(int slug) {
            return slug < 0 || slug >= slugCount ? null : slugs[slug];
        }

        // ---- what is added

        int addStory(byte[] text, int length, int face, int due) {
            int size = 0;
            int from = 0;
            for (int i = 0; i <= length && size < MOST_PARTS; i++) {
                if (i == length || text[i] == '/') {
                    Part part = ownPart(MOST_PARTS * stories + size);
                    part.empty(face, due);
                    part.addText(text, from, i);
                    from = i + 1;
                    size++;
                }
            }
            sizes[stories] = size;
            stories++;
            return stories - 1;
        }

        void addStyle(Style style, int minute) {
            Style own = ownStyle(styleCount);
            own.takeAll(style);
            own.minute = minute;
            styleCount++;
        }

        int addMachine(int n, int back) {
            ownMachine(machineCount).empty(n, back);
            machineCount++;
            return machineCount - 1;
        }

        // ---- styles

        Style styleAt(int minute) {
            Style found = noRules;
            for (int i = 0; i < styleCount; i++) {
                Style style = ownStyle(i);
                if (style.minute <= minute && (found == noRules || style.minute >= found.minute)) {
                    found = style;
                }
            }
            return found;
        }

        int rulesNow() {
            return styleAt(now).rules;
        }

        private void factsOfPart(Part part, int minute) {
            facts[Style.HEAD] = part.face == 1 ? 1 : 0;
            facts[Style.LATE] = minute > part.due ? 1 : 0;
            facts[Style.CORRECTED] = 0;
            facts[Style.WORDS] = part.words;
            facts[Style.BITS] = part.bits;
            facts[Style.DUE] = part.due;
            facts[Style.MINUTE] = minute;
            facts[Style.LETTERS] = 0;
            facts[Style.MACHINE] = 99;
        }

        private void factsOfSlug(Slug slug, Part part) {
            factsOfPart(part, slug.minute);
            facts[Style.CORRECTED] = slug.isCorrected ? 1 : 0;
            facts[Style.LETTERS] = slug.letters;
            facts[Style.MACHINE] = slug.machine;
        }

        Breaker breakerFor(Part part, int minute) {
            Style style = styleAt(minute);
            factsOfPart(part, minute);
            style.weigh(facts);
            breaker.loadRules(style);
            breaker.loadCopy(part, widths);
            return breaker;
        }

        int lateOf(int page) {
            int close = styleAt(now).lastClose(page);
            return close == NONE ? 0 : Math.max(0, now - close);
        }

        // ---- minutes

        void passMinute() {
            now++;
            int row = (now - 1) % MOST_ROWS * MOST_MACHINES;
            for (int i = 0; i < MOST_MACHINES; i++) {
                rows[row + i] = NONE;
                castThen[row + i] = NONE;
            }
            for (int i = 0; i < machineCount; i++) {
                Machine machine = ownMachine(i);
                if (!machine.isBroken && machine.jobs > 0) {
                    work(i, machine);
                }
            }
        }

        private void work(int number, Machine machine) {
            Part part = findPart(machine.jobPart[0]);
            if (part == null || !part.isSet && !setPart(part)) {
                machine.spike();
                return;
            }
            if (machine.jobEnd[0] == ALL_LINES) {
                machine.jobEnd[0] = part.lines;
            }
            countNeed(part, machine.jobNext[0]);
            if (machine.cannotCast(need)) {
                machine.spike();
                return;
            }
            countOut(number, now - machine.wayBack, now - 1);
            if (slugCount >= MOST_SLUGS || machine.isShort(need, out)) {
                machine.waited++;
                return;
            }
            castLine(number, machine, part);
        }

        private boolean setPart(Part part) {
            if (breakerFor(part, now).solve(0) == NONE) {
                return false;
            }
            breaker.putLines(part, 0, 0);
            part.isSet = true;
            return true;
        }

        private void countNeed(Part part, int line) {
            clear(need);
            int length = part.spell(line, text);
            for (int i = 0; i < length && i < text.length; i++) {
                addSign(need, text[i]);
            }
        }

        /** Counts what a MACHINE cast from one minute to another one. */
        void countOut(int machine, int from, int to) {
            clear(out);
            for (int i = slugCount - 1; i >= 0; i--) {
                Slug slug = ownSlug(i);
                if (slug.minute < from) {
                    return;
                }
                for (int at = 0; slug.machine == machine && slug.minute <= to && at < slug.length; at++) {
                    addSign(out, slug.cast[at]);
                }
            }
        }

        private static void clear(int[] signs) {
            for (int i = 0; i < signs.length; i++) {
                signs[i] = 0;
            }
        }

        private static void addSign(int[] signs, int c) {
            int sign = c == '-' ? HYPHEN : c - 'a';
            if (sign >= 0 && sign < signs.length) {
                signs[sign]++;
            }
        }

        private void castLine(int number, Machine machine, Part part) {
            int line = machine.jobNext[0];
            if (part.hasLine(line)) {
                Slug slug = ownSlug(slugCount);
                slug.takeText(text, part.spell(line, text));
                slug.part = machine.jobPart[0];
                slug.face = part.face;
                slug.line = line;
                slug.machine = number;
                slug.minute = now;
                slug.isCorrected = machine.jobCorrected[0];
                takeAwayAt(part, line);
                slugCount++;
                layAt(slugCount - 1, slug.part, line);
                int at = (now - 1) % MOST_ROWS * MOST_MACHINES + number;
                rows[at] = slugCount - 1;
                castThen[at] = slugCount - 1;
                machine.linesCast++;
            }
            machine.jobNext[0]++;
            if (machine.jobNext[0] >= machine.jobEnd[0]) {
                machine.dropJob();
            }
        }

        // ---- slugs at their places

        /** Lays a SLUG at a PLACE that is empty, or whose SLUG is laid elsewhere then. */
        void layAt(int number, int home, int place) {
            Slug slug = findSlug(number);
            Part part = findPart(home);
            if (slug == null || part == null || !part.hasLine(place)) {
                return;
            }
            slug.state = LIES;
            slug.home = home;
            slug.place = place;
            part.place[place] = number;
        }

        void takeAway(Slug slug, int state) {
            Part part = findPart(slug.home);
            if (part != null && part.hasLine(slug.place)) {
                part.place[slug.place] = NONE;
            }
            slug.state = state;
            slug.home = NONE;
            slug.place = NONE;
        }

        private void takeAwayAt(Part part, int place) {
            Slug slug = findSlug(part.place[place]);
            if (slug != null) {
                takeAway(slug, POT);
            }
        }

        boolean isRight(Part part, int place) {
            Slug slug = part.hasLine(place) ? findSlug(part.place[place]) : null;
            return slug != null && slug.face == part.face && slug.saysText(text, part.spell(place, text));
        }

        int firstNotRight(Part part) {
            for (int i = 0; i < part.lines; i++) {
                if (!isRight(part, i)) {
                    return i;
                }
            }
            return NONE;
        }

        int countRight(Part part) {
            int many = 0;
            for (int i = 0; i < part.lines; i++) {
                many += isRight(part, i) ? 1 : 0;
            }
            return many;
        }

        boolean isStorySet(int story) {
            for (int i = 0; i < MOST_PARTS; i++) {
                Part part = findPart(MOST_PARTS * story + i);
                if (part != null && !part.isSet) {
                    return false;
                }
            }
            return true;
        }

        boolean isQueued(int part) {
            for (int i = 0; i < machineCount; i++) {
                if (ownMachine(i).hasJobOf(part)) {
                    return true;
                }
            }
            return false;
        }

        // ---- corrections

        /** Gives a PART new copy: how many LINES are to be cast; NONE, and nothing happens, without BEST. */
        int correctWith(int number, int word, Part fresh, Machine machine) {
            Part part = findPart(number);
            if (part == null) {
                return NONE;
            }
            if (!part.isSet) {
                part.takeCopy(fresh);
                return 0;
            }
            int opened = part.lineOf(part.firstBit(word));
            int from = part.firstBitOfLine(opened);
            if (breakerFor(fresh, now).solve(from) == NONE) {
                return NONE;
            }
            fresh.takeLines(part);
            breaker.putLines(fresh, opened, from);
            int same = countSame(part, fresh, opened);
            movePlaces(part, fresh, opened, same);
            part.takeCopy(fresh);
            part.takeLines(fresh);
            int castTo = part.lines - same;
            if (castTo > opened) {
                machine.addJob(number, opened, castTo, true);
            }
            return castTo - opened;
        }

        /** How many LINES say the same in both, from the last one backward to the first one that is opened. */
        private int countSame(Part part, Part fresh, int opened) {
            int most = Math.min(part.lines, fresh.lines) - opened;
            int same = 0;
            while (same < most) {
                int length = part.spell(part.lines - 1 - same, text);
                int otherLength = fresh.spell(fresh.lines - 1 - same, otherText);
                if (!Slug.sameBytes(text, length, otherText, otherLength)) {
                    return same;
                }
                same++;
            }
            return same;
        }

        /** What lies at the last so many old PLACES goes to the last new ones, what lies ahead to the POT. */
        private void movePlaces(Part part, Part fresh, int opened, int same) {
            for (int i = opened; i < part.lines - same; i++) {
                takeAwayAt(part, i);
            }
            for (int i = 1; i <= same; i++) {
                int to = fresh.lines - i;
                Slug slug = findSlug(part.place[part.lines - i]);
                if (slug != null) {
                    slug.place = to;
                    fresh.place[to] = part.place[part.lines - i];
                }
            }
        }

        // ---- counts

        int countLost(int part) {
            int many = 0;
            for (int i = 0; i < slugCount; i++) {
                Slug slug = ownSlug(i);
                many += slug.part == part && slug.state != LIES ? 1 : 0;
            }
            return many;
        }

        int countState(int state) {
            int many = 0;
            for (int i = 0; i < slugCount; i++) {
                many += ownSlug(i).state == state ? 1 : 0;
            }
            return many;
        }

        int countCorrected() {
            int many = 0;
            for (int i = 0; i < slugCount; i++) {
                many += ownSlug(i).isCorrected ? 1 : 0;
            }
            return many;
        }

        /** SLUGS that lie and have all of these marks. */
        int countMarked(int marks) {
            int many = 0;
            for (int i = 0; i < slugCount; i++) {
                Slug slug = ownSlug(i);
                many += slug.state == LIES && (slug.marks & marks) == marks ? 1 : 0;
            }
            return many;
        }

        /** SLUGS that lie, are marked by somebody or by nobody, and are WRONG or not. */
        int countRead(boolean marked, boolean wrong) {
            int many = 0;
            for (int i = 0; i < slugCount; i++) {
                Slug slug = ownSlug(i);
                boolean isMarked = slug.marks != 0;
                boolean isWrong = slug.wrongLetters > 0;
                many += slug.state == LIES && isMarked == marked && isWrong == wrong ? 1 : 0;
            }
            return many;
        }

        int missed() {
            int both = countMarked(3);
            if (both == 0) {
                return NONE;
            }
            return (countMarked(1) - both) * (countMarked(2) - both) / both;
        }

        int countJobs() {
            int many = 0;
            for (int i = 0; i < machineCount; i++) {
                many += ownMachine(i).jobs;
            }
            return many;
        }

        /** Whether a MACHINE that is not BROKEN has a JOB. */
        boolean canRun() {
            for (int i = 0; i < machineCount; i++) {
                Machine machine = ownMachine(i);
                if (!machine.isBroken && machine.jobs > 0) {
                    return true;
                }
            }
            return false;
        }

        int rowCount() {
            return Math.min(MOST_ROWS, now);
        }

        /** Where the number of a MACHINE in ROW i stands, or NONE. */
        int rowPlace(int i, int machine) {
            if (i < 0 || i >= rowCount() || machine < 0 || machine >= MOST_MACHINES) {
                return NONE;
            }
            return (now - rowCount() + i) % MOST_ROWS * MOST_MACHINES + machine;
        }

        // ---- pay and plans

        int payOf(int machine, int from, int to) {
            int sum = 0;
            for (int i = 0; i < slugCount; i++) {
                Slug slug = ownSlug(i);
                if (slug.machine == machine && slug.minute >= from && slug.minute <= to) {
                    sum += payOfSlug(slug);
                }
            }
            return sum / 10;
        }

        private int payOfSlug(Slug slug) {
            Part part = findPart(slug.part);
            if (part == null) {
                return 0;
            }
            Style style = styleAt(slug.minute);
            factsOfSlug(slug, part);
            style.weigh(facts);
            int paid = style.lastThatHolds(Style.PAY);
            if (paid == NONE || style.lastThatHolds(Style.FREE) != NONE) {
                return 0;
            }
            int fat = style.lastThatHolds(Style.FAT);
            return Math.max(slug.letters, fat == NONE ? 0 : style.first[fat]) * style.first[paid];
        }

        /** So many minutes as the QUEUE of a MACHINE has LINES. */
        int queuedLines(Machine machine) {
            int sum = 0;
            for (int i = 0; i < machine.jobs; i++) {
                Part part = findPart(machine.jobPart[i]);
                if (part != null && !part.isSet) {
                    sum += Math.max(0, breakerFor(part, now).solve(0));
                } else {
                    sum += machine.jobEnd[i] - machine.jobNext[i];
                }
            }
            return sum;
        }
    }

    /** PAGES, EDITIONS and what CARRIERS told. */
    private static final class Desk {
        private static final int PAGE_ROWS = PAGES * (MOST_EDITIONS + 1);
        /** Three COLUMNS of 60 LINES. */
        private static final int PAGE_SLUGS = 180;

        final int[] columns = new int[PAGES];
        final int[] longs = new int[PAGES];
        final int[] lockedAt = new int[PAGES];
        final int[] lateBy = new int[PAGES];
        /** SLUGS of the PAGES as they are now, then as each EDITION has them. */
        final int[][] held = new int[PAGE_ROWS][];
        final int[] sizes = new int[PAGE_ROWS];
        int editions = 0;
        private final int[] tellSlug = new int[MOST_TELLINGS];
        private final int[] tellRack = new int[MOST_TELLINGS];
        private final int[] tellMinute = new int[MOST_TELLINGS];
        private final int[] toldAt = new int[MOST_TELLINGS];
        int tellings = 0;

        Desk() {
            for (int i = 0; i < PAGES; i++) {
                columns[i] = 1;
                longs[i] = 20;
                lockedAt[i] = NONE;
            }
        }

        void takeAll(Desk other) {
            System.arraycopy(other.columns, 0, columns, 0, columns.length);
            System.arraycopy(other.longs, 0, longs, 0, longs.length);
            System.arraycopy(other.lockedAt, 0, lockedAt, 0, lockedAt.length);
            System.arraycopy(other.lateBy, 0, lateBy, 0, lateBy.length);
            System.arraycopy(other.tellSlug, 0, tellSlug, 0, tellSlug.length);
            System.arraycopy(other.tellRack, 0, tellRack, 0, tellRack.length);
            System.arraycopy(other.tellMinute, 0, tellMinute, 0, tellMinute.length);
            System.arraycopy(other.toldAt, 0, toldAt, 0, toldAt.length);
            editions = other.editions;
            tellings = other.tellings;
            for (int i = 0; i < PAGE_ROWS; i++) {
                takeRow(i, other.held[i], other.sizes[i]);
            }
        }

        private void takeRow(int row, int[] slugs, int size) {
            sizes[row] = 0;
            for (int i = 0; i < size && slugs != null && i < slugs.length; i++) {
                addSlug(row, slugs[i]);
            }
        }

        private void addSlug(int row, int slug) {
            // most rows stay empty for good, so that each is made with its first SLUG
            if (held[row] == null) {
                held[row] = new int[PAGE_SLUGS];
            }
            if (sizes[row] < PAGE_SLUGS) {
                held[row][sizes[row]] = slug;
                sizes[row]++;
            }
        }

        int emptyRow(int page) {
            sizes[page] = 0;
            return page;
        }

        void layPart(int row, Part part) {
            for (int i = 0; i < part.lines; i++) {
                addSlug(row, part.place[i]);
            }
        }

        int addEdition() {
            editions++;
            for (int page = 0; page < PAGES; page++) {
                takeRow(PAGES * editions + page, held[page], sizes[page]);
            }
            return editions - 1;
        }

        int slugOn(int row, int i) {
            return i < 0 || i >= sizes[row] || held[row] == null ? NONE : held[row][i];
        }

        /** How many SLUGS a row has that another one has not. */
        int countNew(int from, int to) {
            int many = 0;
            for (int i = 0; i < sizes[to]; i++) {
                many += hasSlug(from, slugOn(to, i)) ? 0 : 1;
            }
            return many;
        }

        private boolean hasSlug(int row, int slug) {
            for (int i = 0; i < sizes[row]; i++) {
                if (slugOn(row, i) == slug) {
                    return true;
                }
            }
            return false;
        }

        void addTelling(int slug, int rack, int minute, int now) {
            if (tellings >= MOST_TELLINGS) {
                return;
            }
            tellSlug[tellings] = slug;
            tellRack[tellings] = rack;
            tellMinute[tellings] = minute;
            toldAt[tellings] = now;
            tellings++;
        }

        /** The RACK of the latest minute up to one, of what was told up to another one; NONE. */
        int rackOf(int slug, int minute, int known) {
            int rack = NONE;
            int latest = NONE;
            for (int i = 0; i < tellings; i++) {
                if (tellSlug[i] != slug || toldAt[i] > known || tellMinute[i] > minute) {
                    continue;
                }
                if (tellMinute[i] > latest) {
                    latest = tellMinute[i];
                    rack = tellRack[i];
                } else if (tellMinute[i] == latest && tellRack[i] != rack) {
                    // two RACKS of one minute say nothing, and no third one mends that
                    rack = NONE;
                }
            }
            return rack;
        }
    }

    /** Finds BEST FIT of some STORIES on a PAGE. */
    private static final class Fitter {
        private static final int KEEPS = MOST_PARTS + 1;

        int many = 0;
        int bestLines = NONE;
        final int[] stories = new int[MOST_FITTED];
        final int[] bestColumn = new int[MOST_FITTED];
        final int[] bestKeep = new int[MOST_FITTED];
        private final int[] column = new int[MOST_FITTED];
        private final int[] keep = new int[MOST_FITTED];
        private final int[] parts = new int[MOST_FITTED];
        /** LINES of the first so many PARTS of a STORY. */
        private final int[] linesOf = new int[MOST_FITTED * KEEPS];
        private final int[] left = new int[MOST_FITTED];
        private int columns = 1;

        void search(Room room, int set, int itsColumns, int longest) {
            many = 0;
            bestLines = NONE;
            columns = Math.min(itsColumns, left.length);
            for (int story = 0; story < room.stories && many < MOST_FITTED; story++) {
                if ((set >> story & 1) != 0) {
                    addStory(room, story);
                }
            }
            for (int i = 0; i < columns; i++) {
                left[i] = longest;
            }
            chooseColumn(0);
        }

        private void addStory(Room room, int story) {
            stories[many] = story;
            parts[many] = 0;
            linesOf[many * KEEPS] = 0;
            for (int i = 0; i < room.sizes[story]; i++) {
                Part part = room.findPart(MOST_PARTS * story + i);
                int lines = part == null ? 0 : part.lines;
                linesOf[many * KEEPS + i + 1] = linesOf[many * KEEPS + i] + lines;
                parts[many]++;
            }
            many++;
        }

        /** Goes through the COLUMNS of this STORY and of those behind it, the least first. */
        private void chooseColumn(int i) {
            if (i >= many) {
                chooseKeep(0, 0);
                return;
            }
            for (int c = 0; c < columns; c++) {
                column[i] = c;
                chooseColumn(i + 1);
            }
        }

        /** Goes through what this STORY and those behind it keep, the most PARTS first. */
        private void chooseKeep(int i, int lines) {
            if (i >= many) {
                takeIfBetter(lines);
                return;
            }
            for (int n = parts[i]; n >= 1; n--) {
                int own = linesOf[i * KEEPS + n];
                if (own <= left[column[i]]) {
                    keep[i] = n;
                    left[column[i]] -= own;
                    chooseKeep(i + 1, lines + own);
                    left[column[i]] += own;
                }
            }
        }

        private void takeIfBetter(int lines) {
            if (lines <= bestLines) {
                return;
            }
            bestLines = lines;
            System.arraycopy(column, 0, bestColumn, 0, many);
            System.arraycopy(keep, 0, bestKeep, 0, many);
        }

        int placeOf(int story) {
            for (int i = 0; i < many; i++) {
                if (stories[i] == story) {
                    return i;
                }
            }
            return NONE;
        }

        boolean allRight(Room room) {
            for (int i = 0; i < many; i++) {
                for (int k = 0; k < bestKeep[i]; k++) {
                    Part part = room.findPart(MOST_PARTS * stories[i] + k);
                    if (part == null || room.firstNotRight(part) != NONE) {
                        return false;
                    }
                }
            }
            return true;
        }
    }

    /** Finds the least lateness of the PARTS that are not GIVEN. */
    private static final class Planner {
        private static final int SETS = 1 << MOST_PLANNED;
        private static final int FAR = 1000000000;

        private int many = 0;
        private final int[] linesOf = new int[MOST_PLANNED];
        private final int[] dueOf = new int[MOST_PLANNED];
        /** Of each set of the PARTS, on one MACHINE, and on all MACHINES up to that. */
        private final int[] own = new int[SETS];
        private final int[] all = new int[SETS];

        int leastLate(Room room) {
            loadParts(room);
            int sets = 1 << many;
            for (int set = 0; set < sets; set++) {
                all[set] = set == 0 ? 0 : FAR;
            }
            for (int i = 0; i < room.machineCount; i++) {
                Machine machine = room.findMachine(i);
                if (machine != null && !machine.isBroken) {
                    findOwn(room.now + room.queuedLines(machine), sets);
                    shareWithOwn(sets);
                }
            }
            return all[sets - 1] >= FAR ? NONE : all[sets - 1];
        }

        private void loadParts(Room room) {
            many = 0;
            for (int i = 0; i < MOST_PARTS * room.stories && many < MOST_PLANNED; i++) {
                Part part = room.findPart(i);
                if (part == null || part.given) {
                    continue;
                }
                int lines = room.breakerFor(part, room.now).solve(0);
                if (lines != NONE) {
                    linesOf[many] = lines;
                    dueOf[many] = part.due;
                    many++;
                }
            }
        }

        /** What each set costs on one MACHINE that is free from a minute on, by which PART comes last. */
        private void findOwn(int from, int sets) {
            own[0] = 0;
            for (int set = 1; set < sets; set++) {
                int end = from;
                for (int i = 0; i < many; i++) {
                    end += (set >> i & 1) != 0 ? linesOf[i] : 0;
                }
                own[set] = FAR;
                for (int i = 0; i < many; i++) {
                    if ((set >> i & 1) != 0) {
                        own[set] = Math.min(own[set], own[set ^ 1 << i] + Math.max(0, end - dueOf[i]));
                    }
                }
            }
        }

        private void shareWithOwn(int sets) {
            // sets go down, so that the smaller ones still tell what is ahead of this MACHINE
            for (int set = sets - 1; set > 0; set--) {
                for (int part = set; part > 0; part = part - 1 & set) {
                    all[set] = Math.min(all[set], all[set ^ part] + own[part]);
                }
            }
        }
    }
}
