/**
 * Promises 2 to 12: each call that is refused, by the last number or text on each side that is; what it throws or
 * answers, which of several exceptions it is, and that nothing is changed but what the document says.
 */
public final class RefusalsOfCopyTest extends Edges {
    static final int LEAST = Integer.MIN_VALUE;
    static final int MOST = Integer.MAX_VALUE;
    /** Numbers that are no PART of NIGHT: behind the last one of each STORY, too. */
    static final int[] NO_PARTS = {-1, 2, 4, 7, 9, 12, 14, 16, 19, 20, 99, 100, LEAST, MOST};

    private static final Scene NIGHT = Scenes::night;
    private static final Scene FULL = Scenes::stories;
    private static final Scene STYLED = Scenes::styles;

    public static void main(String[] args) {
        feed();
        end();
        width();
        storyNumbers();
        storyTexts();
        storyFull();
        styleNumbers();
        styleTexts();
        styleFull();
        part();
        rule();
        best();
        endsAndHand();
        Checks.finish("RefusalsOfCopyTest");
    }

    private static Scene tape(int bytes) {
        return Scenes.told(NIGHT, Scenes.textOf(bytes));
    }

    private static void feed() {
        answersAlone("P2 feed: 20 more than 400", NONE, tape(400), x -> x.feed(1, 2, 3, 4, 5));
        answersAlone("P2 feed: 401", NONE, tape(381), x -> x.feed(1, 2, 3, 4, 5));
        answersAlone("P2 feed: 401, of 20 times 255", NONE, tape(381), x -> x.feed(-1, -1, -1, -1, -1));
        answersAlone("P2 feed: 419", NONE, tape(399), x -> x.feed(LEAST, MOST, 0, -1, 1));
    }

    private static void end() {
        for (int n : new int[] {-1, 10, 11, 400, 401, LEAST, MOST}) {
            answersAlone("P3 end: " + n + " of 9", 0, NIGHT, x -> bit(x.end(n)));
        }
        Scene empty = NIGHT.then(x -> x.end(0));
        answersAlone("P3 end: 1 of none", 0, empty, x -> bit(x.end(1)));
        answersAlone("P3 end: -1 of none", 0, empty, x -> bit(x.end(-1)));
        answersAlone("P3 end: none of none", 1, empty, x -> bit(x.end(0)));
        answersAlone("P3 end: all of 9", 1, NIGHT, x -> bit(x.end(9)));
        answersAlone("P3 end: all of 400", 1, tape(400), x -> bit(x.end(400)));
        answersAlone("P3 end: 401 of 400", 0, tape(400), x -> bit(x.end(401)));
    }

    private static void width() {
        for (int face : new int[] {-1, 2, LEAST, MOST}) {
            refused("P4 width: FACE " + face, INDEX, NIGHT, x -> x.width(face, 0, 5));
            refused("P4 width: FACE " + face + " and no WIDTH", INDEX, NIGHT, x -> x.width(face, 0, 21));
        }
        for (int sign : new int[] {-1, 27, LEAST, MOST}) {
            refused("P4 width: SIGN " + sign + " of FACE 0", INDEX, NIGHT, x -> x.width(0, sign, 5));
            refused("P4 width: SIGN " + sign + " of FACE 1", INDEX, NIGHT, x -> x.width(1, sign, 5));
            refused("P4 width: SIGN " + sign + " and no WIDTH", INDEX, NIGHT, x -> x.width(1, sign, 0));
        }
        for (int n : new int[] {0, 21, -1, LEAST, MOST}) {
            refused("P4 width: WIDTH " + n, ARGUMENT, NIGHT, x -> x.width(0, 0, n));
            refused("P4 width: WIDTH " + n + " of the -", ARGUMENT, NIGHT, x -> x.width(1, 26, n));
        }
    }

    private static void storyNumbers() {
        for (int face : new int[] {-1, 2, LEAST, MOST}) {
            refusedUnread("P5 story: FACE " + face, INDEX, NIGHT, x -> x.story(face, 5));
            refusedUnread("P5 story: FACE " + face + " and DUE 601", INDEX, NIGHT, x -> x.story(face, 601));
        }
        for (int due : new int[] {-1, 601, LEAST, MOST}) {
            refusedUnread("P5 story: DUE " + due, ARGUMENT, NIGHT, x -> x.story(0, due));
        }
        Scene wrong = Scenes.told(NIGHT, "ab?");
        refusedUnread("P5 story: FACE 2 and a wrong text", INDEX, wrong, x -> x.story(2, 5));
        refusedUnread("P5 story: DUE 601 and a wrong text", ARGUMENT, wrong, x -> x.story(0, 601));
        Scene full = Scenes.told(FULL, "ab");
        refusedUnread("P5 story: FACE -1 and 20 STORIES", INDEX, full, x -> x.story(-1, 5));
        refusedUnread("P5 story: DUE -1 and 20 STORIES", ARGUMENT, full, x -> x.story(0, -1));
        refusedUnread("P5 story: DUE 601 and nothing on the TAPE", ARGUMENT, NIGHT.then(x -> x.end(0)),
            x -> x.story(0, 601));
    }

    private static void storyTexts() {
        refusedText("P5 story: nothing on the TAPE", ARGUMENT, 0, NIGHT, "", x -> x.story(0, 5));
        refusedText("P5 story: blanks alone", ARGUMENT, 3, NIGHT, "   ", x -> x.story(0, 5));
        refusedText("P5 story: a wrong first byte", ARGUMENT, 0, NIGHT, "?", x -> x.story(0, 5));
        refusedText("P5 story: a wrong last byte", ARGUMENT, 8, NIGHT, "ab cd/ef?", x -> x.story(1, 5));
        refusedText("P5 story: more must come", ARGUMENT, 6, NIGHT, "ab cd/", x -> x.story(1, 5));
        refusedText("P5 story: more must come behind 400 bytes", ARGUMENT, 400, NIGHT,
            "ab" + Checks.many(" ", 397, "") + "/", x -> x.story(0, 0));
    }

    private static void storyFull() {
        refusedText("P5 story: a 21st", UNSUPPORTED, NONE, FULL, "ab cd", x -> x.story(0, 5));
        refusedText("P5 story: a wrong 21st", ARGUMENT, 3, FULL, "ab-", x -> x.story(0, 5));
        refusedText("P5 story: an empty 21st", ARGUMENT, 0, FULL, "", x -> x.story(0, 5));
    }

    private static void styleNumbers() {
        for (int minute : new int[] {5, 0, -1, 601, LEAST, MOST}) {
            refusedUnread("P6 style: minute " + minute + ", NOW 6", ARGUMENT, Scenes.told(NIGHT, "fat 7"),
                x -> x.style(minute));
        }
        Scene last = Scenes.told(Scenes::lastMinute, "fat 7");
        refusedUnread("P6 style: minute 599, NOW 600", ARGUMENT, last, x -> x.style(599));
        refusedUnread("P6 style: minute 601, NOW 600", ARGUMENT, last, x -> x.style(601));
        Scene first = Scenes.told(x -> Checks.story(x, 0, 0, "ab"), "fat 7");
        refusedUnread("P6 style: minute -1, NOW 0", ARGUMENT, first, x -> x.style(-1));
        refusedUnread("P6 style: minute 5 and a wrong text", ARGUMENT, Scenes.told(NIGHT, "fat x"), x -> x.style(5));
        refusedUnread("P6 style: minute 601 and 10 STYLES", ARGUMENT, Scenes.told(STYLED, "fat 7"), x -> x.style(601));
    }

    private static void styleTexts() {
        refusedText("P6 style: a wrong first byte", ARGUMENT, 0, NIGHT, "fatt 1", x -> x.style(6));
        refusedText("P6 style: a wrong last byte", ARGUMENT, 12, NIGHT, "fat 1; pay 1?", x -> x.style(6));
        refusedText("P6 style: more must come", ARGUMENT, 6, NIGHT, "fat 1;", x -> x.style(600));
        refusedText("P6 style: more must come behind 400 bytes", ARGUMENT, 400, NIGHT,
            "fat 1" + Checks.many(" ", 394, "") + ";", x -> x.style(6));
    }

    private static void styleFull() {
        refusedText("P6 style: an 11th", UNSUPPORTED, NONE, STYLED, "fat 7", x -> x.style(0));
        refusedText("P6 style: an empty 11th", UNSUPPORTED, NONE, STYLED, "", x -> x.style(600));
        refusedText("P6 style: a wrong 11th", ARGUMENT, 4, STYLED, "fat x", x -> x.style(0));
    }

    private static void part() {
        for (int part : NO_PARTS) {
            refused("P8 part: PART " + part, INDEX, NIGHT, x -> x.part(part, 0));
        }
        refused("P8 part: PART 0 of a new room", INDEX, x -> x.end(0), x -> x.part(0, 0));
        for (int what : new int[] {-1, 8, LEAST, MOST}) {
            refused("P8 part: what " + what, NO_ELEMENT, NIGHT, x -> x.part(0, what));
            refused("P8 part: what " + what + " of no PART", INDEX, NIGHT, x -> x.part(2, what));
        }
        for (int what = 0; what < 8; what++) {
            int w = what;
            int[] due = {4, 4, 0, 3, 1, 2, 1, 0};
            answersAlone("P8 part: what " + w, due[w], NIGHT, x -> x.part(0, w));
        }
        refused("P8 part: PART 100 of 20 STORIES", INDEX, FULL, x -> x.part(100, 0));
        refused("P8 part: PART 96 of 20 STORIES", INDEX, FULL, x -> x.part(96, 0));
    }

    private static void rule() {
        for (int part : NO_PARTS) {
            refused("P9 rule: PART " + part, INDEX, NIGHT, x -> x.rule(part, 0, 0));
        }
        for (int minute : new int[] {-1, 601, LEAST, MOST}) {
            refused("P9 rule: minute " + minute, ARGUMENT, NIGHT, x -> x.rule(0, minute, 0));
            refused("P9 rule: minute " + minute + " and another what", ARGUMENT, NIGHT, x -> x.rule(0, minute, 6));
            refused("P9 rule: minute " + minute + " of no PART", INDEX, NIGHT, x -> x.rule(2, minute, 0));
        }
        for (int what : new int[] {-1, 6, LEAST, MOST}) {
            refused("P9 rule: what " + what, NO_ELEMENT, NIGHT, x -> x.rule(0, 0, what));
            refused("P9 rule: what " + what + " of no PART", INDEX, NIGHT, x -> x.rule(-1, 0, what));
        }
        refused("P9 rule: no PART, no minute, no what", INDEX, NIGHT, x -> x.rule(20, 601, 6));
        for (int what = 0; what < 6; what++) {
            int w = what;
            int[] due = {40, 2, 6, 7, 0, 0};
            answersAlone("P9 rule: what " + w + " of minute 600", due[w], NIGHT, x -> x.rule(0, 600, w));
        }
    }

    private static void best() {
        for (int part : NO_PARTS) {
            refused("P10 best: PART " + part, INDEX, NIGHT, x -> x.best(part, 0));
        }
        for (int what : new int[] {-1, 3, LEAST, MOST}) {
            refused("P10 best: what " + what, NO_ELEMENT, NIGHT, x -> x.best(0, what));
            refused("P10 best: what " + what + " of no PART", INDEX, NIGHT, x -> x.best(2, what));
        }
        for (int what = 0; what < 3; what++) {
            int w = what;
            int[] due = {3, 29, 4};
            answersAlone("P10 best: what " + w, due[w], NIGHT, x -> x.best(10, w));
        }
    }

    private static void endsAndHand() {
        for (int part : NO_PARTS) {
            refused("P11 ends: PART " + part, INDEX, NIGHT, x -> x.ends(part, 0));
            refused("P12 hand: PART " + part, INDEX, NIGHT, x -> x.hand(part, false));
            refused("P12 hand: PART " + part + ", SLACK", INDEX, NIGHT, x -> x.hand(part, true));
        }
        for (int line : new int[] {-1, 2, 3, LEAST, MOST}) {
            answersAlone("P11 ends: LINE " + line + " of two, SET", NONE, NIGHT, x -> x.ends(0, line));
        }
        for (int line : new int[] {-1, 3, 4, LEAST, MOST}) {
            answersAlone("P11 ends: LINE " + line + " of three, not SET", NONE, NIGHT, x -> x.ends(10, line));
        }
        answersAlone("P11 ends: the last LINE of two, SET", 3, NIGHT, x -> x.ends(0, 1));
        answersAlone("P11 ends: the last LINE of three, not SET", 3, NIGHT, x -> x.ends(10, 2));
        Scene tooLong = Scenes.told(NIGHT, "abcdef").then(x -> x.story(0, 0));
        answersAlone("P11 ends: LINE 0 without BEST", NONE, tooLong, x -> x.ends(20, 0));
        answersAlone("P10 best: LINES without BEST", NONE, tooLong, x -> x.best(20, 0));
        answersAlone("P10 best: BADNESS without BEST", NONE, tooLong, x -> x.best(20, 1));
        answersAlone("P10 best: REACH of nothing", 0, tooLong, x -> x.best(20, 2));
        answersAlone("P12 hand: none", NONE, tooLong, x -> x.hand(20, false));
        answersAlone("P12 hand: no SLACK", NONE, tooLong, x -> x.hand(20, true));
    }
}
