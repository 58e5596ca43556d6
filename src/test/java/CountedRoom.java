/**
 * A LeadRoom that counts its calls. Of a call behind the 512th the document promises nothing, so that no test
 * may ask for its answer: it stops here.
 */
final class CountedRoom {
    static final int MOST_CALLS = 512;

    private final LeadRoom room = new LeadRoom();
    private int calls = 0;

    int calls() {
        return calls;
    }

    private LeadRoom next() {
        calls++;
        if (calls > MOST_CALLS) {
            throw new AssertionError("a test asks for the answer of a 513th call");
        }
        return room;
    }

    int feed(int a, int b, int c, int d, int e) {
        return next().feed(a, b, c, d, e);
    }

    boolean end(int n) {
        return next().end(n);
    }

    void width(int face, int sign, int n) {
        next().width(face, sign, n);
    }

    int story(int face, int due) {
        return next().story(face, due);
    }

    int style(int minute) {
        return next().style(minute);
    }

    int fault() {
        return next().fault();
    }

    int part(int part, int what) {
        return next().part(part, what);
    }

    int rule(int part, int minute, int what) {
        return next().rule(part, minute, what);
    }

    int best(int part, int what) {
        return next().best(part, what);
    }

    int ends(int part, int line) {
        return next().ends(part, line);
    }

    int hand(int part, boolean slack) {
        return next().hand(part, slack);
    }

    int machine(int n, int back) {
        return next().machine(n, back);
    }

    int brass(int machine, int sign, int n) {
        return next().brass(machine, sign, n);
    }

    boolean broken(int machine, boolean is) {
        return next().broken(machine, is);
    }

    int give(int part, int machine) {
        return next().give(part, machine);
    }

    int minutes(int n) {
        return next().minutes(n);
    }

    int runs(int machine, int what) {
        return next().runs(machine, what);
    }

    int slug(int slug, int what) {
        return next().slug(slug, what);
    }

    int says(int slug, int i) {
        return next().says(slug, i);
    }

    int lies(int part, int place) {
        return next().lies(part, place);
    }

    int judge(int part) {
        return next().judge(part);
    }

    boolean pie(int slug) {
        return next().pie(slug);
    }

    boolean change(int a, int b) {
        return next().change(a, b);
    }

    int again(int part, int place, int machine) {
        return next().again(part, place, machine);
    }

    int correct(int part, int word, int machine) {
        return next().correct(part, word, machine);
    }

    boolean slip(int slug, int i, int letter) {
        return next().slip(slug, i, letter);
    }

    boolean read(int reader, int slug) {
        return next().read(reader, slug);
    }

    int proof(int what) {
        return next().proof(what);
    }

    int carry(int slug, int rack, int minute) {
        return next().carry(slug, rack, minute);
    }

    int where(int slug, int minute, int known) {
        return next().where(slug, minute, known);
    }

    void page(int page, int columns, int length) {
        next().page(page, columns, length);
    }

    int fit(int page, int set) {
        return next().fit(page, set);
    }

    int fits(int page, int set, int story, boolean kept) {
        return next().fits(page, set, story, kept);
    }

    int lock(int page, int set) {
        return next().lock(page, set);
    }

    int locked(int page, int what) {
        return next().locked(page, what);
    }

    int stands(int page, int edition, int i) {
        return next().stands(page, edition, i);
    }

    int edition() {
        return next().edition();
    }

    int changed(int page, int from, int to) {
        return next().changed(page, from, to);
    }

    int least() {
        return next().least();
    }

    int ahead(int machine) {
        return next().ahead(machine);
    }

    int pay(int machine, int from, int to) {
        return next().pay(machine, from, to);
    }

    int row(int i, int machine) {
        return next().row(i, machine);
    }

    int tear(int i, int machine, int mask) {
        return next().tear(i, machine, mask);
    }

    int check() {
        return next().check();
    }

    void image() {
        next().image();
    }

    boolean back() {
        return next().back();
    }

    int count(int what) {
        return next().count(what);
    }
}
