import java.util.ArrayList;
import java.util.Arrays;
import java.util.HashSet;
import java.util.List;
import java.util.NoSuchElementException;
import java.util.Set;
import java.util.function.Consumer;

/**
 * A second room, written from the document for itself: lists and texts in place of rows of numbers, all
 * ways tried in place of the clever ones. What changed it is kept, so that THE IMAGE is that, done again.
 */
final class Model {
    static final int NONE = -1;

    static final class Part {
        int number;
        int face;
        int due;
        boolean given;
        /** Each WORD as its BITS. */
        List<List<String>> words = new ArrayList<>();
        /** Null until it is SET: the last PIECE of each LINE. */
        List<Integer> lines;
        /** What lies at the PLACES. */
        List<Slug> places = new ArrayList<>();

        int bits() {
            int n = 0;
            for (List<String> word : words) {
                n += word.size();
            }
            return n;
        }

        /** The PIECES: a BIT, and a - behind it, if its WORD goes on. */
        List<String> pieces() {
            List<String> all = new ArrayList<>();
            for (List<String> word : words) {
                for (int i = 0; i < word.size(); i++) {
                    all.add(word.get(i) + (i + 1 < word.size() ? "-" : " "));
                }
            }
            return all;
        }

        String text(int from, int to) {
            StringBuilder text = new StringBuilder();
            List<String> all = pieces();
            for (int i = from; i <= to; i++) {
                String piece = all.get(i);
                boolean goesOn = piece.endsWith("-");
                text.append(piece, 0, piece.length() - 1);
                if (i < to && !goesOn) {
                    text.append(' ');
                }
                if (i == to && goesOn) {
                    text.append('-');
                }
            }
            return text.toString();
        }

        String lineText(int line) {
            return text(line == 0 ? 0 : lines.get(line - 1) + 1, lines.get(line));
        }
    }

    static final class Slug {
        int number;
        Part part;
        int machine;
        int minute;
        int line;
        String cast;
        String told;
        boolean corrected;
        boolean pied;
        Part home;
        Set<Integer> marks = new HashSet<>();

        int place() {
            return home == null ? NONE : home.places.indexOf(this);
        }
    }

    static final class Job {
        Part part;
        /** Null: all LINES of the PART, when it is SET. */
        List<Integer> lines;
        boolean corrected;
    }

    static final class Machine {
        int[] brasses = new int[27];
        int back;
        boolean broken;
        List<Job> queue = new ArrayList<>();
        int cast;
        int waited;
        int spiked;
    }

    static final class Telling {
        int slug;
        int rack;
        int minute;
        int told;
    }

    static final class Page {
        int columns = 1;
        int length = 20;
        int lockedAt = NONE;
        int late;
        List<Integer> slugs = new ArrayList<>();
    }

    /** All but the TAPE, fault and THE IMAGE. */
    static final class State {
        int now;
        int[][] widths = new int[2][27];
        List<List<Part>> stories = new ArrayList<>();
        List<Rules> styles = new ArrayList<>();
        List<Machine> machines = new ArrayList<>();
        List<Slug> slugs = new ArrayList<>();
        List<Telling> tellings = new ArrayList<>();
        Page[] pages = new Page[6];
        List<List<List<Integer>>> editions = new ArrayList<>();
        List<int[]> rows = new ArrayList<>();
        List<int[]> truth = new ArrayList<>();

        State() {
            for (int[] face : widths) {
                Arrays.fill(face, 4);
            }
            for (int i = 0; i < 6; i++) {
                pages[i] = new Page();
            }
        }
    }

    State s = new State();
    List<Byte> tape = new ArrayList<>();
    int fault = NONE;
    private List<Consumer<Model>> done = new ArrayList<>();
    private List<Consumer<Model>> image;

    private void did(Consumer<Model> act) {
        done.add(act);
    }

    // ---- finding

    Part part(int n) {
        if (n < 0 || n / 5 >= s.stories.size() || n % 5 >= s.stories.get(n / 5).size()) {
            throw new IndexOutOfBoundsException();
        }
        return s.stories.get(n / 5).get(n % 5);
    }

    Machine machineOf(int n) {
        if (n < 0 || n >= s.machines.size()) {
            throw new IndexOutOfBoundsException();
        }
        return s.machines.get(n);
    }

    Slug slugOf(int n) {
        if (n < 0 || n >= s.slugs.size()) {
            throw new IndexOutOfBoundsException();
        }
        return s.slugs.get(n);
    }

    static void index(boolean is) {
        if (!is) {
            throw new IndexOutOfBoundsException();
        }
    }

    static void argument(boolean is) {
        if (!is) {
            throw new IllegalArgumentException();
        }
    }

    static void state(boolean is) {
        if (!is) {
            throw new IllegalStateException();
        }
    }

    static void supported(boolean is) {
        if (!is) {
            throw new UnsupportedOperationException();
        }
    }

    static boolean in(int n, int from, int to) {
        return n >= from && n <= to;
    }

    // ---- texts

    int feed(int[] five) {
        if (tape.size() > 380) {
            return NONE;
        }
        for (int n : five) {
            for (byte b : java.nio.ByteBuffer.allocate(4).putInt(n).array()) {
                tape.add(b);
            }
        }
        return tape.size();
    }

    boolean end(int n) {
        if (!in(n, 0, tape.size())) {
            return false;
        }
        tape = new ArrayList<>(tape.subList(0, n));
        return true;
    }

    private String useTape() {
        StringBuilder text = new StringBuilder();
        for (byte b : tape) {
            text.append((char) (b & 255));
        }
        tape.clear();
        return text.toString();
    }

    /** The first wrong byte of copy, looked for byte by byte with the text ahead of it taken apart anew. */
    static int copyFault(String text, int mostParts, int mostWords, int bitsAhead) {
        for (int i = 0; i < text.length(); i++) {
            String ahead = text.substring(0, i);
            char c = text.charAt(i);
            String part = ahead.substring(ahead.lastIndexOf('/') + 1);
            int parts = ahead.length() - ahead.replace("/", "").length() + 1;
            boolean letter = c >= 'a' && c <= 'z';
            if (ahead.endsWith("-") && !letter) {
                return i;
            }
            if (letter) {
                if (ahead.matches("(?s).*[a-z]{12}")) {
                    return i;
                }
                String now = part + c;
                if (now.trim().split(" +").length > mostWords) {
                    return i;
                }
                if (now.trim().split("[ -]+").length + (parts == 1 ? bitsAhead : 0) > 40) {
                    return i;
                }
            } else if (c == '-') {
                if (!ahead.matches("(?s).*[a-z]")) {
                    return i;
                }
            } else if (c == '/') {
                if (part.isBlank() || parts == mostParts) {
                    return i;
                }
            } else if (c != ' ') {
                return i;
            }
        }
        String part = text.substring(text.lastIndexOf('/') + 1);
        return part.isBlank() || text.endsWith("-") ? text.length() : NONE;
    }

    static List<List<String>> wordsOf(String part) {
        List<List<String>> words = new ArrayList<>();
        for (String word : part.trim().split(" +")) {
            words.add(List.of(word.split("-")));
        }
        return words;
    }

    int story(int face, int due) {
        String text = useTape();
        index(in(face, 0, 1));
        argument(in(due, 0, 600));
        fault = copyFault(text, 5, 24, 0);
        argument(fault == NONE);
        supported(s.stories.size() < 20);
        did(m -> m.addStory(text, face, due));
        return addStory(text, face, due);
    }

    private int addStory(String text, int face, int due) {
        List<Part> parts = new ArrayList<>();
        for (String one : text.split("/")) {
            Part part = new Part();
            part.number = 5 * s.stories.size() + parts.size();
            part.face = face;
            part.due = due;
            part.words = wordsOf(one);
            parts.add(part);
        }
        s.stories.add(parts);
        return s.stories.size() - 1;
    }

    int style(int minute) {
        String text = useTape();
        argument(in(minute, s.now, 600));
        Rules rules = new Rules(text, minute);
        fault = rules.fault;
        argument(fault == NONE);
        supported(s.styles.size() < 10);
        did(m -> m.s.styles.add(rules));
        s.styles.add(rules);
        return rules.rules.size();
    }

    void width(int face, int sign, int n) {
        index(in(face, 0, 1) && in(sign, 0, 26));
        argument(in(n, 1, 20));
        did(m -> m.s.widths[face][sign] = n);
        s.widths[face][sign] = n;
    }

    // ---- styles

    Rules styleAt(int minute) {
        Rules best = new Rules("", 0);
        int from = -1;
        for (Rules rules : s.styles) {
            if (rules.minute <= minute && rules.minute >= from) {
                best = rules;
                from = rules.minute;
            }
        }
        return best;
    }

    Rules.Facts factsOf(Part part, int minute) {
        Rules.Facts facts = new Rules.Facts();
        facts.tags.put("head", part.face == 1);
        facts.tags.put("late", minute > part.due);
        facts.tags.put("corrected", false);
        facts.numbers.put("words", part.words.size());
        facts.numbers.put("bits", part.bits());
        facts.numbers.put("due", part.due);
        facts.numbers.put("minute", minute);
        facts.numbers.put("letters", 0);
        facts.numbers.put("machine", 99);
        return facts;
    }

    Rules.Facts factsOf(Slug slug) {
        Rules.Facts facts = factsOf(slug.part, slug.minute);
        facts.tags.put("corrected", slug.corrected);
        facts.numbers.put("letters", slug.cast.replace(" ", "").length());
        facts.numbers.put("machine", slug.machine);
        return facts;
    }

    int rule(int part, int minute, int what) {
        Part p = part(part);
        argument(in(minute, 0, 600));
        Rules.Facts facts = factsOf(p, minute);
        Rules rules = styleAt(minute);
        switch (what) {
            case 0:
                return rules.number("measure", facts, 0, 60);
            case 1:
                return rules.number("space", facts, 0, 2);
            case 2:
                return rules.number("space", facts, 1, 6);
            case 3:
                return rules.number("part", facts, 0, 25);
            case 4:
                return rules.number("fat", facts, 0, 0);
            case 5:
                return rules.last("measure", facts);
            default:
                throw new NoSuchElementException();
        }
    }

    // ---- lines

    /** The ways to break a PART by the RULES of one minute. */
    final class Breaking {
        final Part part;
        final List<String> pieces;
        final int measure;
        final int least;
        final int most;
        final int cost;

        Breaking(Part part, int minute) {
            this.part = part;
            pieces = part.pieces();
            Rules.Facts facts = factsOf(part, minute);
            Rules rules = styleAt(minute);
            measure = rules.number("measure", facts, 0, 60);
            least = rules.number("space", facts, 0, 2);
            most = rules.number("space", facts, 1, 6);
            cost = rules.number("part", facts, 0, 25);
        }

        int wide(String text) {
            int sum = 0;
            for (char c : text.toCharArray()) {
                sum += c == ' ' ? 0 : s.widths[part.face][c == '-' ? 26 : c - 'a'];
            }
            return sum;
        }

        int gaps(String text) {
            return text.length() - text.replace(" ", "").length();
        }

        boolean fits(int from, int to) {
            String text = part.text(from, to);
            return wide(text) + gaps(text) * least <= measure;
        }

        boolean isGood(int from, int to) {
            String text = part.text(from, to);
            boolean last = to == pieces.size() - 1;
            return fits(from, to) && (last || wide(text) + gaps(text) * most >= measure);
        }

        int badness(int from, int to) {
            if (to == pieces.size() - 1) {
                return 0;
            }
            String text = part.text(from, to);
            int over = measure - wide(text) - gaps(text) * least;
            return over * over + (text.endsWith("-") ? cost : 0);
        }

        int badnessOf(List<Integer> way, int from) {
            int sum = 0;
            int first = from;
            for (int end : way) {
                sum += badness(first, end);
                first = end + 1;
            }
            return sum;
        }

        /** Whether one way is better than another one, both from the same PIECE on. */
        boolean isBetter(List<Integer> a, List<Integer> b, int from) {
            int badA = badnessOf(a, from);
            int badB = badnessOf(b, from);
            if (badA != badB) {
                return badA < badB;
            }
            if (a.size() != b.size()) {
                return a.size() < b.size();
            }
            for (int i = 0; i < a.size(); i++) {
                if (!a.get(i).equals(b.get(i))) {
                    return a.get(i) > b.get(i);
                }
            }
            return false;
        }

        /** BEST from a PIECE on, or null: of few PIECES by all ways there are. */
        List<Integer> best(int from) {
            return pieces.size() - from <= 11 ? ofAllWays(from, from, new ArrayList<>(), null) : bySuffixes(from);
        }

        private List<Integer> ofAllWays(int begin, int from, List<Integer> way, List<Integer> best) {
            if (from == pieces.size()) {
                return best == null || isBetter(way, best, begin) ? new ArrayList<>(way) : best;
            }
            List<Integer> found = best;
            for (int to = from; to < pieces.size(); to++) {
                if (isGood(from, to)) {
                    way.add(to);
                    found = ofAllWays(begin, to + 1, way, found);
                    way.remove(way.size() - 1);
                }
            }
            return found;
        }

        private List<Integer> bySuffixes(int from) {
            int n = pieces.size();
            List<List<Integer>> bestOf = new ArrayList<>();
            for (int i = 0; i <= n; i++) {
                bestOf.add(i == n ? new ArrayList<>() : null);
            }
            for (int first = n - 1; first >= from; first--) {
                for (int to = n - 1; to >= first; to--) {
                    if (bestOf.get(to + 1) == null || !isGood(first, to)) {
                        continue;
                    }
                    List<Integer> way = new ArrayList<>();
                    way.add(to);
                    way.addAll(bestOf.get(to + 1));
                    if (bestOf.get(first) == null || isBetter(way, bestOf.get(first), first)) {
                        bestOf.set(first, way);
                    }
                }
            }
            return bestOf.get(from);
        }

        int reach() {
            Set<Integer> begins = new HashSet<>(Set.of(0));
            int far = 0;
            for (int first = 0; first < pieces.size(); first++) {
                for (int to = first; begins.contains(first) && to < pieces.size(); to++) {
                    if (isGood(first, to)) {
                        begins.add(to + 1);
                        far = Math.max(far, to + 1);
                    }
                }
            }
            return far;
        }
    }

    int best(int part, int what) {
        Breaking breaking = new Breaking(part(part), s.now);
        List<Integer> way = breaking.best(0);
        switch (what) {
            case 0:
                return way == null ? NONE : way.size();
            case 1:
                return way == null ? NONE : breaking.badnessOf(way, 0);
            case 2:
                return breaking.reach();
            default:
                throw new NoSuchElementException();
        }
    }

    int ends(int part, int line) {
        Part p = part(part);
        List<Integer> way = p.lines != null ? p.lines : new Breaking(p, s.now).best(0);
        return way == null || line < 0 || line >= way.size() ? NONE : way.get(line);
    }

    int hand(int part, boolean slack) {
        Part p = part(part);
        Breaking breaking = new Breaking(p, s.now);
        int lines = 0;
        int bad = 0;
        int first = 0;
        while (first < p.bits()) {
            int to = p.bits() - 1;
            while (to >= first && !breaking.fits(first, to)) {
                to--;
            }
            if (to < first) {
                return NONE;
            }
            lines++;
            bad += breaking.isGood(first, to) ? 0 : 1;
            first = to + 1;
        }
        return slack ? bad : lines;
    }

    // ---- machines

    int machine(int n, int back) {
        argument(in(n, 0, 40) && in(back, 0, 9));
        supported(s.machines.size() < 4);
        did(m -> m.addMachine(n, back));
        return addMachine(n, back);
    }

    private int addMachine(int n, int back) {
        Machine machine = new Machine();
        Arrays.fill(machine.brasses, n);
        machine.back = back;
        s.machines.add(machine);
        return s.machines.size() - 1;
    }

    int brass(int machine, int sign, int n) {
        Machine m = machineOf(machine);
        index(in(sign, 0, 26));
        argument(in(n, 0, 40));
        did(x -> x.s.machines.get(machine).brasses[sign] = n);
        m.brasses[sign] = n;
        return Math.max(0, n - outOf(machine, sign, s.now - m.back + 1, s.now));
    }

    static int often(String text, int sign) {
        int n = 0;
        for (char c : text.toCharArray()) {
            n += c == (sign == 26 ? '-' : 'a' + sign) ? 1 : 0;
        }
        return n;
    }

    int outOf(int machine, int sign, int from, int to) {
        int sum = 0;
        for (Slug slug : s.slugs) {
            if (slug.machine == machine && in(slug.minute, from, to)) {
                sum += often(slug.cast, sign);
            }
        }
        return sum;
    }

    boolean broken(int machine, boolean is) {
        Machine m = machineOf(machine);
        did(x -> x.s.machines.get(machine).broken = is);
        boolean was = m.broken;
        m.broken = is;
        return was != is;
    }

    int give(int part, int machine) {
        Part p = part(part);
        Machine m = machineOf(machine);
        supported(m.queue.size() < 30);
        if (p.given) {
            return NONE;
        }
        did(x -> x.addGiven(part, machine));
        addGiven(part, machine);
        return m.queue.size();
    }

    private void addGiven(int part, int machine) {
        Job job = new Job();
        job.part = part(part);
        job.part.given = true;
        machineOf(machine).queue.add(job);
    }

    int minutes(int n) {
        argument(in(n, 0, 120));
        for (int i = 0; i < n && s.now < 600; i++) {
            did(Model::minute);
            minute();
        }
        return s.now;
    }

    private void minute() {
        s.now++;
        int[] row = {NONE, NONE, NONE, NONE};
        for (int i = 0; i < s.machines.size(); i++) {
            Machine machine = s.machines.get(i);
            if (!machine.broken && !machine.queue.isEmpty()) {
                row[i] = work(i, machine);
            }
        }
        s.rows.add(row.clone());
        s.truth.add(row);
        if (s.rows.size() > 8) {
            s.rows.remove(0);
            s.truth.remove(0);
        }
    }

    private int work(int number, Machine machine) {
        Job job = machine.queue.get(0);
        Part part = job.part;
        if (part.lines == null) {
            List<Integer> way = new Breaking(part, s.now).best(0);
            if (way == null) {
                machine.queue.remove(0);
                machine.spiked++;
                return NONE;
            }
            part.lines = way;
            part.places = new ArrayList<>();
            for (int i = 0; i < way.size(); i++) {
                part.places.add(null);
            }
        }
        if (job.lines == null) {
            job.lines = new ArrayList<>();
            for (int i = 0; i < part.lines.size(); i++) {
                job.lines.add(i);
            }
        }
        int line = job.lines.get(0);
        String text = part.lineText(line);
        for (int sign = 0; sign < 27; sign++) {
            if (often(text, sign) > machine.brasses[sign]) {
                machine.queue.remove(0);
                machine.spiked++;
                return NONE;
            }
        }
        boolean waits = s.slugs.size() == 300;
        for (int sign = 0; sign < 27; sign++) {
            int needs = often(text, sign);
            int out = outOf(number, sign, s.now - machine.back, s.now - 1);
            waits |= needs > 0 && needs > machine.brasses[sign] - out;
        }
        if (waits) {
            machine.waited++;
            return NONE;
        }
        Slug slug = new Slug();
        slug.number = s.slugs.size();
        slug.part = part;
        slug.machine = number;
        slug.minute = s.now;
        slug.line = line;
        slug.cast = text;
        slug.told = text;
        slug.corrected = job.corrected;
        if (part.places.get(line) != null) {
            part.places.get(line).home = null;
        }
        part.places.set(line, slug);
        slug.home = part;
        s.slugs.add(slug);
        machine.cast++;
        job.lines.remove(0);
        if (job.lines.isEmpty()) {
            machine.queue.remove(0);
        }
        return slug.number;
    }

    int runs(int machine, int what) {
        Machine m = machineOf(machine);
        switch (what) {
            case 0:
                return m.queue.size();
            case 1:
                return m.cast;
            case 2:
                return m.waited;
            case 3:
                return m.spiked;
            case 4:
                return m.broken ? 1 : 0;
            case 5:
                return m.queue.isEmpty() ? NONE : m.queue.get(0).part.number;
            default:
                throw new NoSuchElementException();
        }
    }

    // ---- slugs

    int part(int part, int what) {
        Part p = part(part);
        switch (what) {
            case 0:
                return p.words.size();
            case 1:
                return p.bits();
            case 2:
                return p.face;
            case 3:
                return p.due;
            case 4:
                return p.given ? 1 : 0;
            case 5:
                return p.lines == null ? NONE : p.lines.size();
            case 6:
                int right = 0;
                for (int i = 0; p.lines != null && i < p.lines.size(); i++) {
                    right += isRight(p, i) ? 1 : 0;
                }
                return right;
            case 7:
                return (int) s.slugs.stream().filter(x -> x.part == p && x.home == null).count();
            default:
                throw new NoSuchElementException();
        }
    }

    boolean isRight(Part part, int place) {
        Slug slug = part.places.get(place);
        return slug != null && slug.told.equals(part.lineText(place)) && slug.part.face == part.face;
    }

    int slug(int slug, int what) {
        Slug x = slugOf(slug);
        switch (what) {
            case 0:
                return x.part.number;
            case 1:
                return x.machine;
            case 2:
                return x.minute;
            case 3:
                return x.cast.replace(" ", "").length();
            case 4:
                return x.home != null ? 0 : x.pied ? 1 : 2;
            case 5:
                return x.place();
            case 6:
                return x.home == null ? NONE : x.home.number;
            case 7:
                return x.corrected ? 1 : 0;
            case 8:
                return x.told.equals(x.cast) ? 0 : 1;
            case 9:
                return x.line;
            default:
                throw new NoSuchElementException();
        }
    }

    int says(int slug, int i) {
        String told = slugOf(slug).told;
        return i < 0 || i >= told.length() ? NONE : told.charAt(i);
    }

    int lies(int part, int place) {
        Part p = part(part);
        state(p.lines != null);
        index(in(place, 0, p.lines.size() - 1));
        return p.places.get(place) == null ? NONE : p.places.get(place).number;
    }

    int judge(int part) {
        Part p = part(part);
        state(p.lines != null);
        for (int i = 0; i < p.lines.size(); i++) {
            if (!isRight(p, i)) {
                return i;
            }
        }
        return NONE;
    }

    boolean pie(int slug) {
        Slug x = slugOf(slug);
        if (x.home == null) {
            return false;
        }
        did(m -> m.spill(slug));
        spill(slug);
        return true;
    }

    private void spill(int slug) {
        Slug x = slugOf(slug);
        x.home.places.set(x.place(), null);
        x.home = null;
        x.pied = true;
    }

    boolean change(int a, int b) {
        Slug x = slugOf(a);
        Slug y = slugOf(b);
        if (x.home == null || y.home == null) {
            return false;
        }
        did(m -> m.swap(a, b));
        swap(a, b);
        return true;
    }

    private void swap(int a, int b) {
        Slug x = slugOf(a);
        Slug y = slugOf(b);
        int xPlace = x.place();
        int yPlace = y.place();
        Part xHome = x.home;
        x.home = y.home;
        y.home = xHome;
        x.home.places.set(yPlace, x);
        y.home.places.set(xPlace, y);
    }

    int again(int part, int place, int machine) {
        Part p = part(part);
        Machine m = machineOf(machine);
        state(p.lines != null);
        index(in(place, 0, p.lines.size() - 1));
        supported(m.queue.size() < 30);
        if (p.places.get(place) != null) {
            return NONE;
        }
        did(x -> x.addLines(part, place, place, machine, false));
        addLines(part, place, place, machine, false);
        return m.queue.size();
    }

    private void addLines(int part, int from, int to, int machine, boolean corrected) {
        Job job = new Job();
        job.part = part(part);
        job.lines = new ArrayList<>();
        for (int i = from; i <= to; i++) {
            job.lines.add(i);
        }
        job.corrected = corrected;
        machineOf(machine).queue.add(job);
    }

    int correct(int part, int word, int machine) {
        String text = useTape();
        Part p = part(part);
        index(in(word, 0, p.words.size() - 1));
        Machine m = machineOf(machine);
        fault = copyFault(text, 1, 1, p.bits() - p.words.get(word).size());
        argument(fault == NONE);
        for (Machine each : s.machines) {
            for (Job job : each.queue) {
                state(p.lines == null || job.part != p);
            }
        }
        supported(m.queue.size() < 30);
        int answer = putWord(part, word, machine, text);
        if (answer != NONE) {
            did(x -> x.putWord(part, word, machine, text));
        }
        return answer;
    }

    private int putWord(int part, int word, int machine, String text) {
        Part p = part(part);
        Part fresh = new Part();
        fresh.number = p.number;
        fresh.face = p.face;
        fresh.due = p.due;
        fresh.words = new ArrayList<>(p.words);
        fresh.words.set(word, wordsOf(text).get(0));
        if (p.lines == null) {
            p.words = fresh.words;
            return 0;
        }
        int firstBit = 0;
        for (int i = 0; i < word; i++) {
            firstBit += p.words.get(i).size();
        }
        int stay = 0;
        while (p.lines.get(stay) < firstBit) {
            stay++;
        }
        int from = stay == 0 ? 0 : p.lines.get(stay - 1) + 1;
        List<Integer> way = new Breaking(fresh, s.now).best(from);
        if (way == null) {
            return NONE;
        }
        fresh.lines = new ArrayList<>(p.lines.subList(0, stay));
        fresh.lines.addAll(way);
        int same = 0;
        while (same < p.lines.size() - stay && same < way.size()
                && p.lineText(p.lines.size() - 1 - same).equals(fresh.lineText(fresh.lines.size() - 1 - same))) {
            same++;
        }
        List<Slug> places = new ArrayList<>(p.places.subList(0, stay));
        for (Slug slug : p.places.subList(stay, p.places.size() - same)) {
            if (slug != null) {
                slug.home = null;
            }
        }
        int toCast = way.size() - same;
        for (int i = 0; i < toCast; i++) {
            places.add(null);
        }
        places.addAll(p.places.subList(p.places.size() - same, p.places.size()));
        p.words = fresh.words;
        p.lines = fresh.lines;
        p.places = places;
        if (toCast > 0) {
            addLines(part, stay, stay + toCast - 1, machine, true);
        }
        return toCast;
    }

    boolean slip(int slug, int i, int letter) {
        Slug x = slugOf(slug);
        String letters = x.told.replace(" ", "").replace("-", "");
        argument(in(i, 0, letters.length() - 1) && in(letter, 0, 25));
        did(m -> m.putLetter(slug, i, letter));
        return putLetter(slug, i, letter);
    }

    private boolean putLetter(int slug, int i, int letter) {
        Slug x = slugOf(slug);
        StringBuilder told = new StringBuilder();
        int n = 0;
        for (char c : x.told.toCharArray()) {
            boolean isLetter = Character.isLetter(c);
            told.append(isLetter && n == i ? (char) ('a' + letter) : c);
            n += isLetter ? 1 : 0;
        }
        boolean other = !told.toString().equals(x.told);
        x.told = told.toString();
        return other;
    }

    boolean read(int reader, int slug) {
        index(in(reader, 0, 1));
        Slug x = slugOf(slug);
        did(m -> m.slugOf(slug).marks.add(reader));
        return x.marks.add(reader);
    }

    private int lying(java.util.function.Predicate<Slug> which) {
        return (int) s.slugs.stream().filter(x -> x.home != null).filter(which).count();
    }

    int proof(int what) {
        int a = lying(x -> x.marks.contains(0));
        int b = lying(x -> x.marks.contains(1));
        int both = lying(x -> x.marks.size() == 2);
        switch (what) {
            case 0:
                return a;
            case 1:
                return b;
            case 2:
                return both;
            case 3:
                return both == 0 ? NONE : (a - both) * (b - both) / both;
            case 4:
                return lying(x -> !x.marks.isEmpty() && x.told.equals(x.cast));
            case 5:
                return lying(x -> x.marks.isEmpty() && !x.told.equals(x.cast));
            default:
                throw new NoSuchElementException();
        }
    }

    int carry(int slug, int rack, int minute) {
        Slug x = slugOf(slug);
        argument(in(rack, 0, 9) && in(minute, x.minute, s.now));
        if (s.tellings.size() == 200) {
            return NONE;
        }
        did(m -> m.addTelling(slug, rack, minute));
        addTelling(slug, rack, minute);
        return s.tellings.size();
    }

    private void addTelling(int slug, int rack, int minute) {
        Telling telling = new Telling();
        telling.slug = slug;
        telling.rack = rack;
        telling.minute = minute;
        telling.told = s.now;
        s.tellings.add(telling);
    }

    int where(int slug, int minute, int known) {
        slugOf(slug);
        int latest = NONE;
        for (Telling t : s.tellings) {
            if (t.slug == slug && t.told <= known && t.minute <= minute) {
                latest = Math.max(latest, t.minute);
            }
        }
        Set<Integer> racks = new HashSet<>();
        for (Telling t : s.tellings) {
            if (t.slug == slug && t.told <= known && t.minute == latest) {
                racks.add(t.rack);
            }
        }
        return racks.size() == 1 ? racks.iterator().next() : NONE;
    }

    // ---- pages

    void page(int page, int columns, int length) {
        index(in(page, 0, 5));
        argument(in(columns, 1, 3) && in(length, 1, 60));
        did(m -> m.setPage(page, columns, length));
        setPage(page, columns, length);
    }

    private void setPage(int page, int columns, int length) {
        s.pages[page].columns = columns;
        s.pages[page].length = length;
    }

    private List<Integer> storiesOf(int page, int set) {
        index(in(page, 0, 5));
        List<Integer> stories = new ArrayList<>();
        for (int i = 0; i < 32; i++) {
            if ((set >>> i & 1) != 0) {
                index(i < s.stories.size());
                stories.add(i);
            }
        }
        argument(in(stories.size(), 1, 4));
        for (int story : stories) {
            for (Part part : s.stories.get(story)) {
                state(part.lines != null);
            }
        }
        return stories;
    }

    /** Null, or LINES kept, then each COLUMN, then how many PARTS each keeps: of all that could be. */
    private int[] fitOf(int page, List<Integer> stories) {
        int n = stories.size();
        int[] best = null;
        int[] sizes = new int[2 * n];
        int all = 1;
        for (int i = 0; i < n; i++) {
            sizes[i] = s.pages[page].columns;
            sizes[n + i] = s.stories.get(stories.get(i)).size();
            all *= sizes[i] * sizes[n + i];
        }
        for (int code = 0; code < all; code++) {
            int[] fit = new int[2 * n + 1];
            int rest = code;
            int[] used = new int[3];
            for (int i = 0; i < 2 * n; i++) {
                fit[i + 1] = rest % sizes[i] + (i < n ? 0 : 1);
                rest /= sizes[i];
            }
            for (int i = 0; i < n; i++) {
                for (Part part : s.stories.get(stories.get(i)).subList(0, fit[1 + n + i])) {
                    used[fit[1 + i]] += part.lines.size();
                    fit[0] += part.lines.size();
                }
            }
            int length = s.pages[page].length;
            if (used[0] <= length && used[1] <= length && used[2] <= length
                    && (best == null || isBetterFit(fit, best, n))) {
                best = fit;
            }
        }
        return best;
    }

    private static boolean isBetterFit(int[] a, int[] b, int n) {
        for (int i = 0; i < a.length; i++) {
            if (a[i] != b[i]) {
                return in(i, 1, n) ? a[i] < b[i] : a[i] > b[i];
            }
        }
        return false;
    }

    int fit(int page, int set) {
        int[] fit = fitOf(page, storiesOf(page, set));
        return fit == null ? NONE : fit[0];
    }

    int fits(int page, int set, int story, boolean kept) {
        index(in(story, 0, s.stories.size() - 1));
        List<Integer> stories = storiesOf(page, set);
        int[] fit = fitOf(page, stories);
        int at = stories.indexOf(story);
        return fit == null || at < 0 ? NONE : fit[1 + at + (kept ? stories.size() : 0)];
    }

    int lock(int page, int set) {
        List<Integer> stories = storiesOf(page, set);
        int[] fit = fitOf(page, stories);
        if (fit == null) {
            return NONE;
        }
        List<Integer> slugs = new ArrayList<>();
        for (int column = 0; column < 3; column++) {
            for (int i = 0; i < stories.size(); i++) {
                if (fit[1 + i] != column) {
                    continue;
                }
                for (Part part : s.stories.get(stories.get(i)).subList(0, fit[1 + stories.size() + i])) {
                    for (int line = 0; line < part.lines.size(); line++) {
                        if (!isRight(part, line)) {
                            return NONE;
                        }
                        slugs.add(part.places.get(line).number);
                    }
                }
            }
        }
        int late = Math.max(0, s.now - styleAt(s.now).close(page, s.now));
        did(m -> m.setLocked(page, slugs, late));
        setLocked(page, slugs, late);
        return slugs.size();
    }

    private void setLocked(int page, List<Integer> slugs, int late) {
        s.pages[page].slugs = slugs;
        s.pages[page].lockedAt = s.now;
        s.pages[page].late = late;
    }

    int locked(int page, int what) {
        index(in(page, 0, 5));
        Page p = s.pages[page];
        switch (what) {
            case 0:
                return p.slugs.size();
            case 1:
                return p.lockedAt;
            case 2:
                return p.late;
            case 3:
                return p.columns;
            case 4:
                return p.length;
            default:
                throw new NoSuchElementException();
        }
    }

    private List<Integer> slugsOf(int page, int edition) {
        index(in(page, 0, 5) && in(edition, NONE, s.editions.size() - 1));
        return edition == NONE ? s.pages[page].slugs : s.editions.get(edition).get(page);
    }

    int stands(int page, int edition, int i) {
        List<Integer> slugs = slugsOf(page, edition);
        return in(i, 0, slugs.size() - 1) ? slugs.get(i) : NONE;
    }

    int edition() {
        supported(s.editions.size() < 8);
        did(Model::addEdition);
        addEdition();
        return s.editions.size() - 1;
    }

    private void addEdition() {
        List<List<Integer>> all = new ArrayList<>();
        for (Page page : s.pages) {
            all.add(new ArrayList<>(page.slugs));
        }
        s.editions.add(all);
    }

    int changed(int page, int from, int to) {
        Set<Integer> news = new HashSet<>(slugsOf(page, to));
        news.removeAll(new HashSet<>(slugsOf(page, from)));
        return news.size();
    }

    // ---- plans

    int least() {
        List<int[]> parts = new ArrayList<>();
        for (List<Part> story : s.stories) {
            for (Part part : story) {
                List<Integer> way = part.given ? null : new Breaking(part, s.now).best(0);
                if (way != null && parts.size() < 5) {
                    parts.add(new int[] {way.size(), part.due});
                }
            }
        }
        List<Integer> ends = new ArrayList<>();
        for (Machine machine : s.machines) {
            int end = s.now;
            for (Job job : machine.queue) {
                if (job.lines != null) {
                    end += job.lines.size();
                } else {
                    List<Integer> way = new Breaking(job.part, s.now).best(0);
                    end += way == null ? 0 : way.size();
                }
            }
            if (!machine.broken) {
                ends.add(end);
            }
        }
        return leastOf(parts, ends);
    }

    /** Each PART that may be next on each MACHINE, and all the ways behind that. */
    private static int leastOf(List<int[]> parts, List<Integer> ends) {
        if (parts.isEmpty()) {
            return 0;
        }
        int least = NONE;
        for (int i = 0; i < parts.size(); i++) {
            List<int[]> rest = new ArrayList<>(parts);
            int[] part = rest.remove(i);
            for (int k = 0; k < ends.size(); k++) {
                List<Integer> then = new ArrayList<>(ends);
                then.set(k, ends.get(k) + part[0]);
                int sum = Math.max(0, then.get(k) - part[1]) + leastOf(rest, then);
                least = least == NONE ? sum : Math.min(least, sum);
            }
        }
        return least;
    }

    int ahead(int machine) {
        if (machine != NONE) {
            machineOf(machine);
        }
        Model other = new Model();
        for (Consumer<Model> act : done) {
            act.accept(other);
        }
        if (machine != NONE) {
            other.machineOf(machine).broken = true;
        }
        for (int minute = s.now; minute <= 600; minute++) {
            if (other.jobs() == 0) {
                return minute;
            }
            other.minute();
        }
        return NONE;
    }

    int jobs() {
        int n = 0;
        for (Machine machine : s.machines) {
            n += machine.queue.size();
        }
        return n;
    }

    int pay(int machine, int from, int to) {
        machineOf(machine);
        long sum = 0;
        for (Slug slug : s.slugs) {
            if (slug.machine != machine || !in(slug.minute, from, to)) {
                continue;
            }
            Rules rules = styleAt(slug.minute);
            Rules.Facts facts = factsOf(slug);
            if (rules.last("free", facts) == NONE) {
                int letters = Math.max(facts.numbers.get("letters"), rules.number("fat", facts, 0, 0));
                sum += (long) letters * rules.number("pay", facts, 0, 0);
            }
        }
        return (int) (sum / 10);
    }

    // ---- rows, the image, counts

    private int[] rowOf(int i, int machine) {
        if (!in(i, 0, s.rows.size() - 1) || !in(machine, 0, 3)) {
            throw new NoSuchElementException();
        }
        return s.rows.get(i);
    }

    int row(int i, int machine) {
        return rowOf(i, machine)[machine];
    }

    int tear(int i, int machine, int mask) {
        int[] row = rowOf(i, machine);
        did(m -> m.s.rows.get(i)[machine] ^= mask);
        row[machine] ^= mask;
        return row[machine];
    }

    int check() {
        for (int i = 0; i < s.rows.size(); i++) {
            for (int machine = 0; machine < 4; machine++) {
                if (s.rows.get(i)[machine] != s.truth.get(i)[machine]) {
                    return 4 * i + machine;
                }
            }
        }
        return NONE;
    }

    void image() {
        image = new ArrayList<>(done);
    }

    boolean back() {
        if (image == null) {
            return false;
        }
        Model other = new Model();
        for (Consumer<Model> act : image) {
            act.accept(other);
        }
        s = other.s;
        done = new ArrayList<>(image);
        return true;
    }

    int count(int what) {
        switch (what) {
            case 0:
                return s.now;
            case 1:
                return s.stories.size();
            case 2:
                return styleAt(s.now).rules.size();
            case 3:
                return s.machines.size();
            case 4:
                return s.slugs.size();
            case 5:
                return lying(x -> true);
            case 6:
                return (int) s.slugs.stream().filter(x -> x.home == null && x.pied).count();
            case 7:
                return (int) s.slugs.stream().filter(x -> x.home == null && !x.pied).count();
            case 8:
                return (int) s.slugs.stream().filter(x -> x.corrected).count();
            case 9:
                return lying(x -> !x.told.equals(x.cast));
            case 10:
                return s.tellings.size();
            case 11:
                return s.editions.size();
            case 12:
                return jobs();
            case 13:
                return s.styles.size();
            case 14:
                return s.rows.size();
            default:
                return NONE;
        }
    }
}
