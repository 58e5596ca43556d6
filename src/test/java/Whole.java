import java.util.ArrayList;
import java.util.List;

/**
 * All that a room answers after a Scene. A room answers 512 calls alone, so that the questions are put to
 * as many rooms, made by the same calls, as it takes.
 */
final class Whole {
    interface Question {
        long ask(CountedRoom x);
    }

    private static final int[] MINUTES = {0, 1, 39, 40, 600};

    private final Scene scene;
    private final List<String> answers = new ArrayList<>();
    private CountedRoom asked = null;

    private Whole(Scene scene) {
        this.scene = scene;
    }

    /** What is there now, what THE IMAGE has, what comes of it in some minutes, the TAPE and fault(). */
    static List<String> deep(Scene scene) {
        List<String> all = new ArrayList<>(of(scene));
        all.addAll(of(scene.then(x -> x.minutes(12))));
        boolean[] kept = {false};
        scene.then(x -> kept[0] = x.back()).play(new CountedRoom());
        if (kept[0]) {
            all.addAll(of(scene.then(x -> x.back())));
        }
        Whole whole = new Whole(scene);
        whole.ask("fault()", x -> x.fault());
        whole.tape();
        all.addAll(whole.answers);
        return all;
    }

    /** What is there now. */
    static List<String> of(Scene scene) {
        Whole whole = new Whole(scene);
        CountedRoom probe = new CountedRoom();
        scene.play(probe);
        int stories = probe.count(1);
        int machines = probe.count(3);
        int slugs = probe.count(4);
        int editions = probe.count(11);
        whole.counts();
        for (int part = 0; part < 5 * stories; part++) {
            whole.part(part);
        }
        for (int slug = 0; slug < slugs; slug++) {
            whole.slug(slug);
        }
        for (int machine = 0; machine < machines; machine++) {
            whole.machine(machine);
        }
        for (int page = 0; page < 6; page++) {
            whole.page(page, editions);
        }
        return whole.answers;
    }

    /** The first line in which two of them differ, or nothing. */
    static String difference(List<String> one, List<String> other) {
        for (int i = 0; i < one.size() && i < other.size(); i++) {
            if (!one.get(i).equals(other.get(i))) {
                return one.get(i) + ", then " + other.get(i);
            }
        }
        return one.size() == other.size() ? "" : "one tells more than the other";
    }

    private void ask(String name, Question question) {
        if (asked == null || asked.calls() >= CountedRoom.MOST_CALLS) {
            asked = new CountedRoom();
            scene.play(asked);
        }
        String answer;
        try {
            answer = Long.toString(question.ask(asked));
        } catch (RuntimeException e) {
            if (!Checks.KINDS.contains(e.getClass()) || !Checks.isThrownByHand(e)) {
                throw e;
            }
            answer = e.getClass().getSimpleName();
        }
        answers.add(name + " = " + answer);
    }

    /** Asks what changes a room, of a room of its own. */
    private void askAlone(String name, Question question) {
        asked = null;
        ask(name, question);
        asked = null;
    }

    private void counts() {
        for (int what = 0; what < 15; what++) {
            int w = what;
            ask("count(" + w + ")", x -> x.count(w));
        }
        for (int what = 0; what < 6; what++) {
            int w = what;
            ask("proof(" + w + ")", x -> x.proof(w));
        }
        for (int i = 0; i < 8; i++) {
            for (int machine = 0; machine < 4; machine++) {
                int row = i;
                int m = machine;
                ask("row(" + row + ", " + m + ")", x -> x.row(row, m));
            }
        }
        ask("check()", x -> x.check());
        ask("least()", x -> x.least());
        ask("ahead(NONE)", x -> x.ahead(-1));
    }

    private void part(int part) {
        for (int what = 0; what < 8; what++) {
            int w = what;
            ask("part(" + part + ", " + w + ")", x -> x.part(part, w));
        }
        for (int what = 0; what < 3; what++) {
            int w = what;
            ask("best(" + part + ", " + w + ")", x -> x.best(part, w));
        }
        for (int minute : MINUTES) {
            for (int what = 0; what < 6; what++) {
                int w = what;
                ask("rule(" + part + ", " + minute + ", " + w + ")", x -> x.rule(part, minute, w));
            }
        }
        for (int line = 0; line < 5; line++) {
            int i = line;
            ask("ends(" + part + ", " + i + ")", x -> x.ends(part, i));
            ask("lies(" + part + ", " + i + ")", x -> x.lies(part, i));
        }
        ask("hand(" + part + ", false)", x -> x.hand(part, false));
        ask("hand(" + part + ", true)", x -> x.hand(part, true));
        ask("judge(" + part + ")", x -> x.judge(part));
    }

    private void slug(int slug) {
        for (int what = 0; what < 10; what++) {
            int w = what;
            ask("slug(" + slug + ", " + w + ")", x -> x.slug(slug, w));
        }
        for (int i = 0; i < 7; i++) {
            int at = i;
            ask("says(" + slug + ", " + at + ")", x -> x.says(slug, at));
        }
        ask("where(" + slug + ", 600, 600)", x -> x.where(slug, 600, 600));
        ask("where(" + slug + ", 2, 600)", x -> x.where(slug, 2, 600));
    }

    private void machine(int machine) {
        for (int what = 0; what < 6; what++) {
            int w = what;
            ask("runs(" + machine + ", " + w + ")", x -> x.runs(machine, w));
        }
        ask("ahead(" + machine + ")", x -> x.ahead(machine));
        ask("pay(" + machine + ")", x -> x.pay(machine, 0, 600));
        // that changes the BRASSES of the room that is asked
        asked = null;
        for (int sign = 0; sign < 27; sign++) {
            int s = sign;
            ask("of 40 there (" + machine + ", " + s + ")", x -> x.brass(machine, s, 40));
        }
        asked = null;
    }

    private void page(int page, int editions) {
        for (int what = 0; what < 5; what++) {
            int w = what;
            ask("locked(" + page + ", " + w + ")", x -> x.locked(page, w));
        }
        for (int edition = -1; edition < editions; edition++) {
            int e = edition;
            for (int i = 0; i < 4; i++) {
                int at = i;
                ask("stands(" + page + ", " + e + ", " + at + ")", x -> x.stands(page, e, at));
            }
            ask("changed(" + page + ", " + e + ")", x -> x.changed(page, e, -1));
        }
    }

    private void tape() {
        askAlone("bytes on the TAPE", x -> tapeOf(x));
        askAlone("a STORY of the TAPE", x -> x.story(0, 0));
        askAlone("fault() of that", x -> faultOfTape(x));
        askAlone("WORDS of that", x -> x.part(5 * x.story(0, 0), 0));
        askAlone("PIECES of that", x -> x.part(5 * x.story(0, 0), 1));
    }

    private static long faultOfTape(CountedRoom x) {
        try {
            x.story(0, 0);
        } catch (RuntimeException e) {
            return 1000 + x.fault();
        }
        return x.fault();
    }

    /** How many bytes the TAPE has; what it has is away then. */
    static int tapeOf(CountedRoom x) {
        int more = x.feed(0, 0, 0, 0, 0);
        if (more != -1) {
            return more - 20;
        }
        for (int n = 400; n > 380; n--) {
            if (x.end(n)) {
                return n;
            }
        }
        return -1;
    }
}
