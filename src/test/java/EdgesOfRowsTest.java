/**
 * Part 9, and promises 43 to 48: of each sentence that names an edge what is taken last and refused first, nothing,
 * one, as many as there may be, and one more; and where the ROWS begin anew.
 */
public final class EdgesOfRowsTest extends Edges {
    public static void main(String[] args) {
        rowsByMinutes();
        rowsGoRound();
        fourNumbersARow();
        torn();
        tornAndGone();
        checkByRows();
        checkAtTheEdges();
        noImage();
        imageOfNothing();
        anewBehindNothing();
        imageTwice();
        imageOfTornRows();
        imageOfEachThing();
        imageOfAsMuchAsThereIs();
        countAtTheEdges();
        Checks.finish("EdgesOfRowsTest");
    }

    /** One SLUG a minute, by MACHINE 0. */
    private static CountedRoom nightOf(int minutes) {
        CountedRoom x = new CountedRoom();
        x.width(0, 0, 5);
        Checks.style(x, 0, "measure 10; space 1 40");
        Checks.story(x, 0, 0, Checks.many("aa", 24, " "));
        x.machine(40, 0);
        x.give(0, 0);
        x.minutes(minutes);
        return x;
    }

    private static void rowsByMinutes() {
        for (int minutes = 0; minutes <= 18; minutes++) {
            CountedRoom x = nightOf(minutes);
            int rows = Math.min(8, minutes);
            same("P48 count: ROWS at " + minutes, rows, x.count(14));
            for (int i = 0; i < rows; i++) {
                same("P43 row: ROW " + i + " at " + minutes, minutes - rows + i, x.row(i, 0));
            }
            refuses("P43 row: one more at " + minutes, NO_ELEMENT, () -> x.row(rows, 0));
            refuses("P43 row: ROW -1 at " + minutes, NO_ELEMENT, () -> x.row(-1, 0));
            refuses("P44 tear: one more at " + minutes, NO_ELEMENT, () -> x.tear(rows, 0, 1));
            refuses("P44 tear: ROW -1 at " + minutes, NO_ELEMENT, () -> x.tear(-1, 0, 1));
            same("P45 check: none at " + minutes, NONE, x.check());
        }
    }

    private static void rowsGoRound() {
        CountedRoom x = nightOf(24);
        same("P43 row: the last SLUG in the latest ROW", 23, x.row(7, 0));
        for (int minutes = 1; minutes <= 10; minutes++) {
            x.minutes(1);
            for (int i = 0; i < 8; i++) {
                int slug = 16 + minutes + i;
                same("P43 row: " + minutes + " minutes behind the last SLUG, ROW " + i, slug < 24 ? slug : NONE,
                    x.row(i, 0));
            }
        }
        for (int i = 0; i < 5; i++) {
            x.minutes(120);
        }
        same("P48 count: ROWS at 600", 8, x.count(14));
        same("P43 row: nothing at 600", NONE, x.row(7, 0));
        same("P44 tear: at 600", -1 ^ 5, x.tear(7, 3, 5));
        same("P45 check: at 600", 31, x.check());
    }

    private static void fourNumbersARow() {
        for (int machines = 0; machines <= 4; machines++) {
            CountedRoom x = new CountedRoom();
            Checks.story(x, 0, 0, "a/b/c/d");
            for (int i = 0; i < machines; i++) {
                x.machine(9, 0);
                x.give(i, i);
            }
            x.minutes(1);
            for (int i = 0; i < 4; i++) {
                same("P43 row: MACHINE " + i + " of " + machines, i < machines ? i : NONE, x.row(0, i));
            }
            refuses("P43 row: MACHINE 4 of " + machines, NO_ELEMENT, () -> x.row(0, 4));
            refuses("P43 row: MACHINE -1 of " + machines, NO_ELEMENT, () -> x.row(0, -1));
            refuses("P44 tear: MACHINE 4 of " + machines, NO_ELEMENT, () -> x.tear(0, 4, 1));
            refuses("P44 tear: MACHINE -1 of " + machines, NO_ELEMENT, () -> x.tear(0, -1, 1));
        }
    }

    private static void torn() {
        int[] masks = {0, 1, 2, -1, Integer.MIN_VALUE, Integer.MAX_VALUE, 7, 0};
        CountedRoom x = nightOf(8);
        for (int i = 0; i < 8; i++) {
            same("P44 tear: ROW " + i + " with " + masks[i], i ^ masks[i], x.tear(i, 0, masks[i]));
            same("P43 row: what it is then, ROW " + i, i ^ masks[i], x.row(i, 0));
            same("P44 tear: NONE with " + masks[i], ~masks[i], x.tear(i, 3, masks[i]));
            same("P21 lies: the SLUG lies where it did", i, x.lies(0, i));
        }
        same("P45 check: the first one that is not as it was", 4, x.check());
        for (int i = 0; i < 8; i++) {
            same("P44 tear: back, ROW " + i, i, x.tear(i, 0, masks[i]));
            same("P44 tear: back to NONE, ROW " + i, NONE, x.tear(i, 3, masks[i]));
        }
        same("P45 check: none", NONE, x.check());
    }

    private static void tornAndGone() {
        CountedRoom x = nightOf(8);
        x.tear(0, 0, 1);
        same("P45 check: the oldest ROW", 0, x.check());
        x.minutes(1);
        same("P45 check: it is gone", NONE, x.check());
        same("P43 row: the next one is the oldest", 1, x.row(0, 0));
        x.tear(7, 0, 1);
        for (int minutes = 1; minutes <= 7; minutes++) {
            x.minutes(1);
            same("P45 check: the latest ROW, minutes later " + minutes, 4 * (7 - minutes), x.check());
        }
        x.minutes(1);
        same("P45 check: it is gone after eight", NONE, x.check());
        // where it stood another minute's number stands now
        for (int i = 0; i < 8; i++) {
            same("P43 row: none is torn", 9 + i, x.row(i, 0));
        }
    }

    private static void checkByRows() {
        CountedRoom x = nightOf(8);
        for (int i = 7; i >= 0; i--) {
            for (int machine = 3; machine >= 0; machine--) {
                x.tear(i, machine, 1 << 4 * i + machine);
                same("P45 check: ROW " + i + ", MACHINE " + machine, 4 * i + machine, x.check());
            }
        }
    }

    private static void checkAtTheEdges() {
        CountedRoom x = new CountedRoom();
        same("P45 check: no ROWS", NONE, x.check());
        x.minutes(1);
        same("P45 check: one ROW, and nothing cast", NONE, x.check());
        x.tear(0, 3, 1);
        same("P45 check: its last number", 3, x.check());
        x.tear(0, 0, 1);
        same("P45 check: its first number", 0, x.check());
        x.tear(0, 0, 0);
        same("P45 check: a mask of 0", 0, x.check());
        x.tear(0, 0, 1);
        same("P45 check: with the same mask it is as it was", 3, x.check());
    }

    private static void noImage() {
        CountedRoom x = nightOf(3);
        same("P47 back: none was kept", false, x.back());
        same("P48 count: NOW stays", 3, x.count(0));
        same("P48 count: the SLUGS stay", 3, x.count(4));
        x.image();
        same("P47 back: one was kept", true, x.back());
        same("P47 back: and again", true, x.back());
        same("P48 count: NOW stays still", 3, x.count(0));
    }

    private static void imageOfNothing() {
        CountedRoom x = new CountedRoom();
        x.image();
        Checks.story(x, 0, 0, "ab cd");
        Checks.style(x, 0, "fat 9");
        x.machine(9, 0);
        x.give(0, 0);
        x.minutes(2);
        x.lock(0, 1);
        x.edition();
        x.carry(0, 1, 1);
        x.width(0, 0, 9);
        x.page(0, 3, 60);
        same("P47 back: to nothing", true, x.back());
        for (int what = 0; what < 15; what++) {
            same("P1 count: as in a new room, what " + what, 0, x.count(what));
        }
        refuses("P8 part: no PART", INDEX, () -> x.part(0, 0));
        refuses("P18 runs: no MACHINE", INDEX, () -> x.runs(0, 0));
        refuses("P19 slug: no SLUG", INDEX, () -> x.slug(0, 0));
        refuses("P37 stands: no EDITION", INDEX, () -> x.stands(0, 0, 0));
        refuses("P43 row: no ROW", NO_ELEMENT, () -> x.row(0, 0));
        int[] page = {0, NONE, 0, 1, 20};
        for (int what = 0; what < 5; what++) {
            same("P36 locked: as in a new room, what " + what, page[what], x.locked(0, what));
        }
        Checks.style(x, 0, "measure 20");
        Checks.story(x, 0, 0, "aaaaa");
        same("P4 width: 4, as in a new room", 1, x.best(0, 0));
    }

    /** What comes anew has nothing of what had its number ahead of going back. */
    private static void anewBehindNothing() {
        CountedRoom x = new CountedRoom();
        x.image();
        Checks.story(x, 0, 0, "ab / cd ef");
        x.machine(9, 0);
        x.give(0, 0);
        x.give(1, 0);
        x.minutes(2);
        x.read(0, 0);
        x.read(1, 0);
        x.slip(0, 0, 5);
        x.back();
        Checks.story(x, 0, 7, "ab");
        Checks.story(x, 0, 7, "ab");
        x.machine(9, 0);
        int[] part = {1, 1, 0, 7, 0, NONE, 0, 0};
        for (int what = 0; what < 8; what++) {
            same("P47 back: a new PART, what " + what, part[what], x.part(0, what));
        }
        refuses("P47 back: a new PART is not SET", STATE, () -> x.lies(0, 0));
        refuses("P47 back: a new PART is not SET, judge", STATE, () -> x.judge(0));
        refuses("P47 back: a new STORY is not SET", STATE, () -> x.fit(0, 1));
        refuses("P47 back: a new STORY has one PART", INDEX, () -> x.part(1, 0));
        x.give(5, 0);
        x.minutes(1);
        same("P47 back: a new SLUG of the other PART", 5, x.slug(0, 0));
        same("P8 part: no PLACE of a PART that is not SET is RIGHT", 0, x.part(0, 6));
        same("P29 proof: nobody marked the new SLUG", 0, x.proof(0) + x.proof(1));
        same("P19 slug: the new SLUG is not WRONG", 0, x.slug(0, 8));
        same("P16 give: the new PART was not GIVEN", 1, x.give(0, 0));
    }

    private static void imageTwice() {
        CountedRoom x = nightOf(2);
        x.image();
        x.minutes(3);
        x.image();
        x.minutes(4);
        x.back();
        same("P46 image: there is one, the latest", 5, x.count(0));
        x.minutes(1);
        x.back();
        same("P47 back: THE IMAGE stays", 5, x.count(0));
        x.minutes(19);
        x.image();
        x.back();
        same("P46 image: of NOW", 24, x.count(0));
        same("P48 count: all SLUGS", 24, x.count(4));
    }

    private static void imageOfTornRows() {
        CountedRoom x = nightOf(10);
        x.tear(3, 0, 8);
        x.image();
        x.tear(3, 0, 8);
        x.tear(5, 1, 8);
        x.minutes(11);
        x.back();
        same("P45 check: it is TORN in THE IMAGE", 12, x.check());
        same("P43 row: as it was TORN", 5 ^ 8, x.row(3, 0));
        same("P43 row: another one is not", NONE, x.row(5, 1));
        x.tear(3, 0, 8);
        same("P45 check: no other one", NONE, x.check());
    }

    /** One thing is changed behind THE IMAGE, and is as it was when one went back; only fault() and the TAPE are not. */
    private static void imageOfEachThing() {
        Scene night = x -> {
            Scenes.night(x);
            x.image();
        };
        Scene[] changes = {x -> x.width(0, 0, 9), x -> x.width(1, 0, 9), x -> x.machine(3, 3), x -> x.brass(0, 24, 0),
            x -> x.broken(1, false), x -> x.give(11, 0), x -> x.minutes(1), x -> x.minutes(30), x -> x.pie(0),
            x -> x.change(0, 1), x -> x.again(1, 0, 0), x -> x.slip(1, 1, 5), x -> x.read(0, 1), x -> x.carry(1, 4, 5),
            x -> x.page(2, 2, 9), x -> x.lock(2, 2), x -> x.edition(), x -> x.tear(1, 1, 1)};
        java.util.List<String> due = Whole.deep(night);
        for (int i = 0; i < changes.length; i++) {
            same("P47 back: after change " + i, "",
                Whole.difference(due, Whole.deep(night.then(changes[i]).then(x -> x.back()))));
            same("P47 back: there was change " + i, false,
                Whole.difference(due, Whole.deep(night.then(changes[i]))).isEmpty());
        }
        Scene[] texts = {x -> Checks.story(x, 0, 0, "ab/cd"), x -> Checks.style(x, 6, "fat 1"),
            x -> Checks.correct(x, 5, 0, 0, "xb"), x -> Checks.correct(x, 11, 0, 0, "x-b")};
        java.util.List<String> untold = Whole.deep(night.then(x -> x.end(0)));
        for (int i = 0; i < texts.length; i++) {
            Scene told = night.then(x -> x.end(0)).then(texts[i]);
            same("P47 back: after text " + i, "", Whole.difference(untold, Whole.deep(told.then(x -> x.back()))));
            same("P47 back: there was text " + i, false, Whole.difference(untold, Whole.deep(told)).isEmpty());
        }
        CountedRoom x = new CountedRoom();
        x.image();
        Checks.tell(x, "ab?");
        refuses("P5 story: a wrong text", ARGUMENT, () -> x.story(0, 0));
        Checks.tell(x, "abc");
        x.back();
        same("P47 back: fault() is not gone back to", 2, x.fault());
        same("P47 back: the TAPE is not gone back to", 3, Whole.tapeOf(x));
    }

    /** As many of all as there may be are kept, and come back. */
    private static void imageOfAsMuchAsThereIs() {
        Scene[] scenes = {Scenes::stories, Scenes::styles, Scenes::machines, Scenes::jobs, Scenes::tellings,
            Scenes::editions, Scenes::slugs};
        for (int i = 0; i < scenes.length; i++) {
            CountedRoom x = new CountedRoom();
            CountedRoom y = new CountedRoom();
            x.image();
            scenes[i].play(x);
            scenes[i].play(y);
            x.ahead(NONE);
            x.image();
            x.minutes(30);
            x.back();
            x.minutes(3);
            y.minutes(3);
            for (int what = 0; what < 15; what++) {
                same("P47 back: to as much as there may be, scene " + i + ", count " + what, y.count(what), x.count(what));
            }
            for (int machine = 0; machine < y.count(3); machine++) {
                for (int what = 0; what < 6; what++) {
                    same("P47 back: scene " + i + ", runs " + what, y.runs(machine, what), x.runs(machine, what));
                }
            }
        }
    }

    private static void countAtTheEdges() {
        CountedRoom x = new CountedRoom();
        for (int what = 0; what < 15; what++) {
            same("P1 count: of a new room, what " + what, 0, x.count(what));
        }
        same("P48 count: what 15", NONE, x.count(15));
        same("P48 count: what -1", NONE, x.count(-1));
        same("P48 count: the least what", NONE, x.count(Integer.MIN_VALUE));
        same("P48 count: the most what", NONE, x.count(Integer.MAX_VALUE));
        CountedRoom y = nightOf(1);
        int[] due = {1, 1, 2, 1, 1, 1, 0, 0, 0, 0, 0, 0, 1, 1, 1};
        for (int what = 0; what < 15; what++) {
            same("P48 count: one of each, what " + what, due[what], y.count(what));
        }
    }
}
