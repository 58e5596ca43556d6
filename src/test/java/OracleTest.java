import java.util.ArrayList;
import java.util.List;
import java.util.Random;

/** Runs of calls by chance (of fixed seeds): the room and the Model have to answer the same. */
public final class OracleTest {
    interface Call {
        long answer();
    }

    private static final int[] STRANGE = {-1, -2, 5, 6, 7, 20, 27, 31, 100, 300, 601, Integer.MAX_VALUE,
        Integer.MIN_VALUE, Integer.MIN_VALUE + 1, 1 << 30, 4, 8, 40, 41, 512};
    /** Calls that a run leaves for the last look at all that there is. */
    private static final int LAST_LOOK = 160;
    private static int compared = 0;
    private static int thrown = 0;

    private final Random random;
    private final CountedRoom room = new CountedRoom();
    private final Model model = new Model();
    private final List<String> calls = new ArrayList<>();
    private final int strange;
    private final int letters;
    private final int longest;
    private final boolean wide;
    /** A room with much in it: all can be cast, and most of what is told is right. */
    private final boolean rich;
    /** A room in which what is at most comes up: STORIES, SLUGS, JOBS, tellings, EDITIONS, minutes. */
    private final boolean full;
    /** When all is looked over: how many questions there are, and the share of them that is asked. */
    private boolean counts = false;
    private int questions = 0;
    private double share = 1;

    private OracleTest(long seed) {
        random = new Random(seed);
        rich = seed % 4 == 1 || seed % 4 == 2;
        full = seed % 8 == 3;
        strange = rich || full ? 400 : random.nextInt(3) == 0 ? 12 : 100;
        letters = 1 + random.nextInt(6);
        longest = 2 + random.nextInt(full ? 2 : rich ? 6 : 12);
        wide = !rich && !full && random.nextInt(4) == 0;
    }

    public static void main(String[] args) {
        int runs = args.length > 1 ? Integer.parseInt(args[1]) : 1500;
        int from = args.length > 2 ? Integer.parseInt(args[2]) : 0;
        for (int seed = from; seed < from + runs; seed++) {
            OracleTest test = new OracleTest(seed);
            if (!test.run()) {
                System.out.println("seed " + seed);
                System.exit(1);
            }
        }
        System.out.println("OracleTest: " + compared + " answers compared, " + thrown + " of them thrown, all the same");
    }

    private boolean run() {
        boolean same = begin();
        for (int i = 0; same && room.calls() < CountedRoom.MOST_CALLS - LAST_LOOK; i++) {
            boolean goesBack = rich && i == 40 && random.nextInt(3) == 0;
            same = goesBack ? goBackAndBeginAnew() : random.nextInt(60) == 0 ? lookOver(30) : step();
        }
        return same && lookOver(CountedRoom.MOST_CALLS);
    }

    /** Most runs begin with copy, a STYLE that lets it break, and MACHINES that cast it. */
    private boolean begin() {
        if (rich || full) {
            return beginRich();
        }
        boolean same = true;
        for (int i = 0; same && i < random.nextInt(5); i++) {
            same = tellStory();
        }
        if (random.nextInt(5) > 0) {
            same = same && tellStyle("space 1 40; measure " + (30 + random.nextInt(60)));
        }
        for (int i = 0; same && i < random.nextInt(4); i++) {
            int n = 3 + random.nextInt(30);
            int back = random.nextInt(4);
            same = check("machine(" + n + ", " + back + ")", () -> room.machine(n, back), () -> model.machine(n, back));
        }
        for (int i = 0; same && i < 10; i++) {
            same = give();
        }
        return same;
    }

    private boolean beginRich() {
        boolean same = perhapsImage() && perhapsNarrow() && tellStyle("space 1 40; measure " + (full ? 60 : 24 + random.nextInt(60)) + "; pay " + random.nextInt(99)
            + "; part " + random.nextInt(60) + "; pay 7 if late; fat " + random.nextInt(20) + "; free if letters < "
            + random.nextInt(9) + "; close 0 at " + random.nextInt(40) + "; close 1 at " + random.nextInt(9));
        for (int i = 0; same && i < (full ? 24 : 3 + random.nextInt(5)); i++) {
            same = tellStory();
        }
        int machines = full ? 1 + random.nextInt(5) : 1 + random.nextInt(3);
        for (int i = 0; same && i < machines; i++) {
            int n = 30 + random.nextInt(11);
            int back = random.nextInt(3);
            same = check("machine(" + n + ", " + back + ")", () -> room.machine(n, back), () -> model.machine(n, back));
        }
        same = same && perhapsImage();
        for (int part = 0; same && part < 5 * model.s.stories.size(); part++) {
            int p = part;
            int machine = random.nextInt(Math.min(4, machines));
            if (random.nextInt(20) > 0) {
                same = check("give(" + p + ", " + machine + ")", () -> room.give(p, machine),
                    () -> model.give(p, machine));
            }
        }
        return same && minutes(20 + random.nextInt(60)) && (!full || minutes(120));
    }

    private boolean perhapsImage() {
        return random.nextInt(3) > 0 || check("image()", () -> done(room::image), () -> done(model::image));
    }

    /** Now and then all letters are narrow, so that LINES say much. */
    private boolean perhapsNarrow() {
        boolean same = true;
        boolean narrow = random.nextInt(3) == 0;
        for (int sign = 0; same && narrow && sign < 2 * 27; sign++) {
            int face = sign / 27;
            int one = sign % 27;
            int n = 1 + random.nextInt(2);
            same = check("width(" + face + ", " + one + ", " + n + ")", () -> done(() -> room.width(face, one, n)),
                () -> done(() -> model.width(face, one, n)));
        }
        return same;
    }

    private boolean minutes(int n) {
        return check("minutes(" + n + ")", () -> room.minutes(n), () -> model.minutes(n));
    }

    private boolean goBackAndBeginAnew() {
        return check("back()", () -> bit(room.back()), () -> bit(model.back())) && lookOver(40) && beginRich() && lookOver(40);
    }

    // ---- comparing

    /** Nothing is promised of a 513th call, so that none is made. */
    private boolean check(String call, Call real, Call due) {
        if (counts) {
            questions++;
            return true;
        }
        if (share < 1 && random.nextDouble() >= share || room.calls() >= CountedRoom.MOST_CALLS) {
            return true;
        }
        calls.add(call);
        compared++;
        Object want;
        try {
            want = due.answer();
        } catch (RuntimeException e) {
            want = e.getClass().getSimpleName();
            thrown++;
            if (e.getMessage() != null) {
                throw e;
            }
        }
        Object got;
        try {
            got = real.answer();
        } catch (RuntimeException e) {
            got = e.getClass().getSimpleName();
            if (!Checks.isThrownByHand(e)) {
                got = "the machine's " + e;
                e.printStackTrace(System.out);
            }
        }
        if (want.equals(got)) {
            return true;
        }
        for (String each : calls) {
            System.out.println("  " + each);
        }
        System.out.println("WRONG: answered " + got + ", due is " + want);
        return false;
    }

    private static long bit(boolean is) {
        return is ? 1 : 0;
    }

    /** Asks for so much of all that can be asked of what there is. */
    private boolean lookOver(int most) {
        counts = true;
        questions = 0;
        lookAtAll();
        counts = false;
        share = Math.min(most, CountedRoom.MOST_CALLS - room.calls()) / (double) questions;
        boolean same = lookAtAll();
        share = 1;
        return same;
    }

    private boolean lookAtAll() {
        boolean same = true;
        for (int what = -1; same && what < 16; what++) {
            int w = what;
            same = check("count(" + w + ")", () -> room.count(w), () -> model.count(w));
        }
        for (int n = 0; same && n < 5 * model.s.stories.size(); n++) {
            if (n % 5 < model.s.stories.get(n / 5).size()) {
                same = lookAtPart(n);
            }
        }
        for (int n = 0; same && n < model.s.slugs.size(); n++) {
            same = lookAtSlug(n);
        }
        for (int n = 0; same && n < model.s.machines.size(); n++) {
            for (int what = 0; same && what < 6; what++) {
                same = runs(n, what);
            }
        }
        for (int page = 0; same && page < 6; page++) {
            for (int what = 0; same && what < 5; what++) {
                same = locked(page, what);
            }
            for (int edition = -1; same && edition < model.s.editions.size(); edition++) {
                for (int i = 0; same && i < 4; i++) {
                    same = stands(page, edition, i == 3 ? random.nextInt(40) : i);
                }
                same = same && changed(page, edition, random.nextInt(model.s.editions.size() + 1) - 1);
            }
        }
        for (int i = 0; same && i < 8; i++) {
            same = row(i, random.nextInt(4)) && (i >= 6 || proof(i));
        }
        for (int i = 0; same && i < model.s.machines.size(); i++) {
            same = pay(i, 0, 600);
        }
        for (int i = 0; same && i < Math.min(10, model.s.slugs.size()); i++) {
            same = where(random.nextInt(model.s.slugs.size()), model.s.now, model.s.now);
        }
        return same && check("check()", room::check, model::check) && check("fault()", room::fault, () -> model.fault);
    }

    private boolean lookAtPart(int n) {
        boolean same = true;
        for (int what = 0; same && what < 8; what++) {
            same = part(n, what);
        }
        for (int what = 0; same && what < 3; what++) {
            same = best(n, what);
        }
        for (int place = 0; same && place < Math.max(1, model.part(n, 5)); place++) {
            same = lies(n, place) && ends(n, place);
        }
        return same && judge(n) && hand(n, true) && hand(n, false);
    }

    private boolean lookAtSlug(int n) {
        boolean same = true;
        for (int what = 0; same && what < 10; what++) {
            same = slug(n, what);
        }
        for (int i = 0; same && (i == 0 || model.says(n, i - 1) != -1); i++) {
            same = says(n, i);
        }
        return same;
    }

    // ---- numbers by chance

    private int or(int usual) {
        return random.nextInt(strange) == 0 ? STRANGE[random.nextInt(STRANGE.length)] : usual;
    }

    private int below(int n) {
        return or(n <= 0 ? 0 : random.nextInt(n));
    }

    private int aPart() {
        int stories = model.s.stories.size();
        int story = stories == 0 ? 0 : random.nextInt(stories);
        int size = stories == 0 ? 1 : model.s.stories.get(story).size();
        return or(5 * story + random.nextInt(size));
    }

    private int aSetPart() {
        for (int i = 0; i < 20; i++) {
            int part = aPart();
            try {
                if (model.part(part, 5) != -1) {
                    return part;
                }
            } catch (IndexOutOfBoundsException e) {
                return part;
            }
        }
        return aPart();
    }

    private int aPlace(int part) {
        try {
            return below(Math.max(1, model.part(part, 5)));
        } catch (IndexOutOfBoundsException e) {
            return 0;
        }
    }

    private int aSlug() {
        return below(model.s.slugs.size());
    }

    private int aMachine() {
        return below(model.s.machines.size());
    }

    private int aMinute() {
        int around = model.s.now - 5 + random.nextInt(12);
        return or(random.nextInt(4) == 0 ? random.nextInt(602) : around);
    }

    private int aSet() {
        int set = 0;
        for (int i = 0; i < 1 + random.nextInt(4); i++) {
            int story = random.nextInt(Math.max(1, model.s.stories.size()));
            boolean isSet = story >= model.s.stories.size()
                || model.s.stories.get(story).stream().allMatch(x -> x.lines != null);
            set |= isSet || random.nextInt(8) == 0 ? 1 << story : 0;
        }
        return random.nextInt(strange) == 0 ? set | 1 << random.nextInt(32) : or(set);
    }

    // ---- texts by chance

    private String aBit() {
        StringBuilder bit = new StringBuilder();
        int length = random.nextInt(12) == 0 ? 1 + random.nextInt(12) : 1 + random.nextInt(4);
        for (int i = 0; i < length; i++) {
            bit.append((char) ('a' + random.nextInt(letters)));
        }
        return bit.toString();
    }

    private String aWord() {
        StringBuilder word = new StringBuilder(aBit());
        for (int i = 0; i < 4 && random.nextInt(3) == 0; i++) {
            word.append('-').append(aBit());
        }
        return word.toString();
    }

    private String blanks() {
        return random.nextInt(8) == 0 ? "  " : random.nextInt(8) == 0 ? " " : "";
    }

    private String aCopy() {
        StringBuilder copy = new StringBuilder(blanks());
        int parts = 1 + random.nextInt(random.nextInt(3) == 0 ? 5 : 2);
        for (int i = 0; i < parts; i++) {
            copy.append(i == 0 ? "" : blanks() + "/" + blanks());
            int words = 1 + random.nextInt(wide ? 24 : longest);
            for (int k = 0; k < words; k++) {
                copy.append(k == 0 ? "" : " " + blanks()).append(aWord());
            }
        }
        return spoiled(copy.append(blanks()).toString(), "abz-/ /- ?A0\u00e9");
    }

    /** Now and then a byte is other, too many, or away. */
    private String spoiled(String text, String signs) {
        StringBuilder other = new StringBuilder(text);
        for (int i = 0; i < 2 && random.nextInt(7) == 0 && other.length() > 0; i++) {
            int at = random.nextInt(other.length());
            char sign = signs.charAt(random.nextInt(signs.length()));
            switch (random.nextInt(4)) {
                case 0:
                    other.setCharAt(at, sign);
                    break;
                case 1:
                    other.insert(at, sign);
                    break;
                case 2:
                    other.deleteCharAt(at);
                    break;
                default:
                    other.setLength(at);
            }
        }
        return other.length() > 400 ? other.substring(0, 400) : other.toString();
    }

    private String aCondition(int depth) {
        switch (random.nextInt(depth > 4 ? 3 : 7)) {
            case 0:
                return new String[] {"head", "late", "corrected"}[random.nextInt(3)];
            case 1:
            case 2:
                String fact = new String[] {"words", "bits", "due", "minute", "letters", "machine"}[random.nextInt(6)];
                int number = random.nextInt(3) == 0 ? random.nextInt(100) : random.nextInt(20);
                return fact + blanks() + (random.nextBoolean() ? "<" : ">") + blanks() + number;
            case 3:
                return "not " + aCondition(depth + 1);
            case 4:
                return "(" + blanks() + aCondition(depth + 1) + ")";
            case 5:
                return aCondition(depth + 1) + " and " + aCondition(depth + 1);
            default:
                return aCondition(depth + 1) + " or " + aCondition(depth + 1);
        }
    }

    private String aRule() {
        switch (random.nextInt(9)) {
            case 0:
                return "measure " + (20 + random.nextInt(80));
            case 1:
                return "measure " + (20 + random.nextInt(80)) + " if " + aCondition(0);
            case 2:
                return "space 1 40";
            case 3:
                int least = 1 + random.nextInt(6);
                return "space " + least + " " + (least + random.nextInt(41 - least));
            case 4:
                return "part " + random.nextInt(1000);
            case 5:
                return "fat " + random.nextInt(30);
            case 6:
                return random.nextBoolean() ? "pay " + random.nextInt(1000) : "pay " + random.nextInt(90) + " if "
                    + aCondition(1);
            case 7:
                return "free if " + aCondition(1);
            default:
                return "close " + random.nextInt(6) + blanks() + " at" + blanks() + random.nextInt(601);
        }
    }

    private String aStyle() {
        int rules = random.nextInt(20) == 0 ? 12 + random.nextInt(2) : random.nextInt(8);
        StringBuilder style = new StringBuilder(blanks());
        for (int i = 0; i < rules; i++) {
            style.append(i == 0 ? "" : blanks() + ";" + blanks()).append(aRule());
        }
        return spoiled(style.append(blanks()).toString(), "(;) <>x19if\n\u00ff");
    }

    private boolean tell(String text) {
        if (room.calls() + 22 > CountedRoom.MOST_CALLS) {
            return true;
        }
        calls.add("tell '" + text + "'");
        Checks.tell(room, text.getBytes(java.nio.charset.StandardCharsets.ISO_8859_1),
            "a0; -/)".charAt(random.nextInt(7)));
        for (int i = 0; i < text.length(); i++) {
            model.tape.add((byte) text.charAt(i));
        }
        return true;
    }

    private boolean clearTape() {
        model.end(0);
        return check("end(0)", () -> bit(room.end(0)), () -> 1);
    }

    private boolean tellStory() {
        int face = or(random.nextInt(2));
        int due = or(random.nextInt(3) == 0 ? random.nextInt(601) : random.nextInt(40));
        return clearTape() && tell(aCopy())
            && check("story(" + face + ", " + due + ")", () -> room.story(face, due), () -> model.story(face, due))
            && check("fault()", room::fault, () -> model.fault);
    }

    private boolean tellStyle(String text) {
        int minute = or(model.s.now + (random.nextInt(3) == 0 ? random.nextInt(30) : 0));
        return clearTape() && tell(text)
            && check("style(" + minute + ")", () -> room.style(minute), () -> model.style(minute))
            && check("fault()", room::fault, () -> model.fault);
    }

    // ---- calls by chance

    private boolean step() {
        if (full && random.nextInt(3) == 0) {
            return carry(aSlug());
        }
        if (rich && random.nextInt(60) == 0) {
            return mendAll();
        }
        int kind = random.nextInt(100);
        if (kind < 30) {
            return stepOfNight(random.nextInt(12));
        }
        if (kind < 62) {
            return stepOfSlugs(random.nextInt(12));
        }
        if (kind < 80) {
            return stepOfPages(random.nextInt(8));
        }
        return kind < 84 ? stepOfImage(random.nextInt(3)) : question(random.nextInt(18));
    }

    private boolean stepOfNight(int which) {
        switch (which) {
            case 0:
                return random.nextInt(3) == 0 ? tellStory() : give();
            case 1:
                return random.nextInt(2) == 0 ? tellStyle(aStyle()) : give();
            case 2:
                int face = or(random.nextInt(2));
                int sign = or(random.nextInt(random.nextInt(3) == 0 ? 27 : letters));
                int n = or(2 + random.nextInt(8));
                return check("width(" + face + ", " + sign + ", " + n + ")", () -> done(() -> room.width(face, sign, n)),
                    () -> done(() -> model.width(face, sign, n)));
            case 3:
                int brasses = or(random.nextInt(41));
                int back = or(random.nextInt(10));
                return random.nextInt(3) > 0 || check("machine(" + brasses + ", " + back + ")",
                    () -> room.machine(brasses, back), () -> model.machine(brasses, back));
            case 4:
                return brass();
            case 5:
                int machine = aMachine();
                boolean is = random.nextInt(3) == 0;
                return check("broken(" + machine + ", " + is + ")", () -> bit(room.broken(machine, is)),
                    () -> bit(model.broken(machine, is)));
            case 6:
            case 7:
                return give();
            case 8:
                int five = random.nextInt();
                return check("feed", () -> room.feed(five, 1, five, 2, -1),
                    () -> model.feed(new int[] {five, 1, five, 2, -1}));
            default:
                return minutes(or(random.nextInt(50) == 0 || full && random.nextInt(3) == 0 ? 120 : random.nextInt(7)));
        }
    }

    /** What lies nowhere right is cast again, so that PAGES may be locked. */
    private boolean mendAll() {
        boolean same = true;
        for (int part = 0; same && part < 5 * model.s.stories.size(); part++) {
            if (part % 5 >= model.s.stories.get(part / 5).size() || model.part(part, 5) == -1) {
                continue;
            }
            int p = part;
            int machine = random.nextInt(model.s.machines.size());
            for (int i = 0; same && i < model.part(p, 5); i++) {
                int place = i;
                if (!model.isRight(model.part(p), place)) {
                    int lying = model.lies(p, place);
                    same = (lying == -1 || check("pie(" + lying + ")", () -> bit(room.pie(lying)),
                        () -> bit(model.pie(lying)))) && check("again(" + p + ", " + place + ", " + machine + ")",
                        () -> room.again(p, place, machine), () -> model.again(p, place, machine));
                }
            }
        }
        return same && minutes(30);
    }

    private static long done(Runnable act) {
        act.run();
        return 0;
    }

    private boolean brass() {
        int machine = aMachine();
        int sign = or(random.nextInt(4) == 0 ? 26 : random.nextInt(letters));
        int n = or(random.nextInt(4) == 0 ? random.nextInt(4) : 4 + random.nextInt(36));
        return check("brass(" + machine + ", " + sign + ", " + n + ")", () -> room.brass(machine, sign, n),
            () -> model.brass(machine, sign, n));
    }

    private boolean give() {
        int part = aPart();
        int machine = aMachine();
        return check("give(" + part + ", " + machine + ")", () -> room.give(part, machine),
            () -> model.give(part, machine));
    }

    private boolean stepOfSlugs(int which) {
        int slug = aSlug();
        int part = aSetPart();
        int place = aPlace(part);
        int machine = aMachine();
        switch (which) {
            case 0:
                return check("pie(" + slug + ")", () -> bit(room.pie(slug)), () -> bit(model.pie(slug)));
            case 1:
                int other = aSlug();
                return check("change(" + slug + ", " + other + ")", () -> bit(room.change(slug, other)),
                    () -> bit(model.change(slug, other)));
            case 2:
            case 3:
                return check("again(" + part + ", " + place + ", " + machine + ")",
                    () -> room.again(part, place, machine), () -> model.again(part, place, machine));
            case 4:
            case 5:
            case 6:
                return correct(random.nextInt(4) == 0 ? aPart() : part);
            case 7:
                int i = or(random.nextInt(8));
                int letter = or(random.nextInt(letters));
                return check("slip(" + slug + ", " + i + ", " + letter + ")", () -> bit(room.slip(slug, i, letter)),
                    () -> bit(model.slip(slug, i, letter)));
            case 8:
            case 9:
                int reader = or(random.nextInt(2));
                return check("read(" + reader + ", " + slug + ")", () -> bit(room.read(reader, slug)),
                    () -> bit(model.read(reader, slug)));
            default:
                return carry(slug);
        }
    }

    private boolean correct(int part) {
        int words;
        try {
            words = model.part(part, 0);
        } catch (IndexOutOfBoundsException e) {
            words = 1;
        }
        int word = below(words);
        int machine = aMachine();
        String text = spoiled(blanks() + aWord() + blanks(), "ab- /?");
        return clearTape() && tell(text)
            && check("correct(" + part + ", " + word + ", " + machine + ")", () -> room.correct(part, word, machine),
                () -> model.correct(part, word, machine))
            && check("fault()", room::fault, () -> model.fault);
    }

    private boolean carry(int slug) {
        int rack = or(random.nextInt(3));
        int minute = or(Math.max(0, model.s.now - random.nextInt(6)));
        return check("carry(" + slug + ", " + rack + ", " + minute + ")", () -> room.carry(slug, rack, minute),
            () -> model.carry(slug, rack, minute));
    }

    private boolean stepOfPages(int which) {
        int page = or(random.nextInt(random.nextInt(3) == 0 ? 6 : 2));
        int set = aSet();
        switch (which) {
            case 0:
                int columns = or(1 + random.nextInt(3));
                int length = or(1 + random.nextInt(random.nextInt(2) == 0 ? 60 : 14));
                return check("page(" + page + ", " + columns + ", " + length + ")",
                    () -> done(() -> room.page(page, columns, length)),
                    () -> done(() -> model.page(page, columns, length)));
            case 1:
                return check("fit(" + page + ", " + set + ")", () -> room.fit(page, set), () -> model.fit(page, set));
            case 2:
            case 3:
                int story = below(model.s.stories.size());
                boolean kept = random.nextBoolean();
                return check("fits(" + page + ", " + set + ", " + story + ", " + kept + ")",
                    () -> room.fits(page, set, story, kept), () -> model.fits(page, set, story, kept));
            case 4:
            case 5:
                return check("lock(" + page + ", " + set + ")", () -> room.lock(page, set), () -> model.lock(page, set));
            case 6:
                return random.nextInt(3) > 0 || check("edition()", room::edition, model::edition);
            default:
                int from = or(random.nextInt(model.s.editions.size() + 1) - 1);
                int to = or(random.nextInt(model.s.editions.size() + 1) - 1);
                return changed(page, from, to);
        }
    }

    private boolean stepOfImage(int which) {
        switch (which) {
            case 0:
                return check("image()", () -> done(room::image), () -> done(model::image));
            case 1:
                return random.nextInt(2) == 0
                    || check("back()", () -> bit(room.back()), () -> bit(model.back())) && lookOver(30);
            default:
                int i = or(random.nextInt(8));
                int machine = or(random.nextInt(4));
                int mask = random.nextInt(3) == 0 ? 0 : 1 << random.nextInt(32);
                return check("tear(" + i + ", " + machine + ", " + mask + ")", () -> room.tear(i, machine, mask),
                    () -> model.tear(i, machine, mask));
        }
    }

    private boolean question(int which) {
        int part = aPart();
        int slug = aSlug();
        int machine = aMachine();
        switch (which) {
            case 0:
            case 1:
                return check("least()", room::least, model::least);
            case 2:
            case 3:
                int out = or(random.nextInt(Math.max(1, model.s.machines.size()) + 1) - 1);
                return check("ahead(" + out + ")", () -> room.ahead(out), () -> model.ahead(out));
            case 4:
            case 5:
                int from = or(random.nextInt(model.s.now + 1));
                int to = or(random.nextInt(3) == 0 ? 600 : from + random.nextInt(20));
                return pay(machine, from, to);
            case 6:
                int minute = aMinute();
                int what = or(random.nextInt(6));
                return check("rule(" + part + ", " + minute + ", " + what + ")", () -> room.rule(part, minute, what),
                    () -> model.rule(part, minute, what));
            case 7:
            case 8:
                return where(slug, aMinute(), aMinute());
            case 9:
                return proof(or(random.nextInt(6)));
            case 10:
                return best(part, or(random.nextInt(3)));
            case 11:
                return ends(part, or(random.nextInt(6))) && hand(part, random.nextBoolean());
            case 12:
                return lies(part, aPlace(part)) && judge(part);
            case 13:
                return slug(slug, or(random.nextInt(10))) && says(slug, or(random.nextInt(10)));
            case 14:
                return part(part, or(random.nextInt(8))) && runs(machine, or(random.nextInt(6)));
            case 15:
                return row(or(random.nextInt(8)), or(random.nextInt(4))) && check("check()", room::check, model::check);
            case 16:
                return locked(or(random.nextInt(6)), or(random.nextInt(5)));
            default:
                return stands(or(random.nextInt(6)), or(random.nextInt(model.s.editions.size() + 1) - 1),
                    or(random.nextInt(9)));
        }
    }

    private boolean changed(int page, int from, int to) {
        return check("changed(" + page + ", " + from + ", " + to + ")", () -> room.changed(page, from, to),
            () -> model.changed(page, from, to));
    }

    private boolean pay(int machine, int from, int to) {
        return check("pay(" + machine + ", " + from + ", " + to + ")", () -> room.pay(machine, from, to),
            () -> model.pay(machine, from, to));
    }

    private boolean where(int slug, int at, int known) {
        return check("where(" + slug + ", " + at + ", " + known + ")", () -> room.where(slug, at, known),
            () -> model.where(slug, at, known));
    }

    private boolean proof(int what) {
        return check("proof(" + what + ")", () -> room.proof(what), () -> model.proof(what));
    }

    private boolean part(int part, int what) {
        return check("part(" + part + ", " + what + ")", () -> room.part(part, what), () -> model.part(part, what));
    }

    private boolean best(int part, int what) {
        return check("best(" + part + ", " + what + ")", () -> room.best(part, what), () -> model.best(part, what));
    }

    private boolean ends(int part, int line) {
        return check("ends(" + part + ", " + line + ")", () -> room.ends(part, line), () -> model.ends(part, line));
    }

    private boolean hand(int part, boolean slack) {
        return check("hand(" + part + ", " + slack + ")", () -> room.hand(part, slack), () -> model.hand(part, slack));
    }

    private boolean lies(int part, int place) {
        return check("lies(" + part + ", " + place + ")", () -> room.lies(part, place), () -> model.lies(part, place));
    }

    private boolean judge(int part) {
        return check("judge(" + part + ")", () -> room.judge(part), () -> model.judge(part));
    }

    private boolean slug(int slug, int what) {
        return check("slug(" + slug + ", " + what + ")", () -> room.slug(slug, what), () -> model.slug(slug, what));
    }

    private boolean says(int slug, int i) {
        return check("says(" + slug + ", " + i + ")", () -> room.says(slug, i), () -> model.says(slug, i));
    }

    private boolean runs(int machine, int what) {
        return check("runs(" + machine + ", " + what + ")", () -> room.runs(machine, what),
            () -> model.runs(machine, what));
    }

    private boolean locked(int page, int what) {
        return check("locked(" + page + ", " + what + ")", () -> room.locked(page, what),
            () -> model.locked(page, what));
    }

    private boolean stands(int page, int edition, int i) {
        return check("stands(" + page + ", " + edition + ", " + i + ")", () -> room.stands(page, edition, i),
            () -> model.stands(page, edition, i));
    }

    private boolean row(int i, int machine) {
        return check("row(" + i + ", " + machine + ")", () -> room.row(i, machine), () -> model.row(i, machine));
    }
}
