/**
 * Part 4, and promises 13 to 22: of each sentence that names an edge what is taken last and refused first, nothing,
 * one, as many as there may be, and one more; the first and the last minute in which a thing is so.
 */
public final class EdgesOfMachinesTest extends Edges {
    public static void main(String[] args) {
        fourMachines();
        brassesAndBacks();
        thereNow();
        thereAtLeastNone();
        brokenAndNot();
        givenOnce();
        thirtyJobs();
        minutesOfACall();
        lastMinute();
        waitsForJustSoMany();
        backOfEach();
        onlyItsOwnMachine();
        needsMoreThanBrasses();
        hyphensAreNeeded();
        spikedIsAMinute();
        lastLineOfAJob();
        setByNow();
        threeHundred();
        runsAtTheEdges();
        slugsAndTheirNumbers();
        says();
        longestLine();
        places();
        right();
        Checks.finish("EdgesOfMachinesTest");
    }

    private static void fourMachines() {
        CountedRoom x = new CountedRoom();
        same("P1 no MACHINE", 0, x.count(3));
        refuses("P18 runs: MACHINE 0 of none", INDEX, () -> x.runs(0, 0));
        for (int i = 0; i < 4; i++) {
            same("P13 machine: the number of one of four", i, x.machine(10, 1));
            same("P13 machine: so many there are", i + 1, x.count(3));
            int next = i + 1;
            refuses("P18 runs: MACHINE " + next + " of " + next, INDEX, () -> x.runs(next, 0));
        }
        refuses("P13 machine: a fifth", UNSUPPORTED, () -> x.machine(10, 1));
        same("P13 machine: four still", 4, x.count(3));
    }

    private static void brassesAndBacks() {
        int[] numbers = {0, 1, 39, 40};
        int[] backs = {0, 1, 8, 9};
        CountedRoom x = new CountedRoom();
        for (int i = 0; i < 4; i++) {
            same("P13 machine: " + numbers[i] + " BRASSES, BACK " + backs[i], i, x.machine(numbers[i], backs[i]));
        }
        int[] signs = {0, 1, 25, 26};
        for (int sign : signs) {
            for (int n : numbers) {
                for (int machine = 0; machine < 4; machine++) {
                    same("P14 brass: " + n + " of SIGN " + sign, n, x.brass(machine, sign, n));
                }
            }
        }
        // so many BRASSES there are of each SIGN at first: a LINE of just so many is cast, one of one more is SPIKED
        for (int n : new int[] {0, 1, 40}) {
            for (String sign : new String[] {"a", "m", "z"}) {
                CountedRoom y = new CountedRoom();
                y.width(0, 0, 1);
                y.width(0, 12, 1);
                y.width(0, 25, 1);
                Checks.style(y, 0, "measure 400");
                Checks.story(y, 0, 0, bitsOf(sign, n == 0 ? 1 : n) + "/" + bitsOf(sign, n + 1));
                y.machine(n, 0);
                y.give(0, 0);
                y.give(1, 0);
                y.minutes(2);
                same("P13 machine: " + n + " BRASSES of " + sign + ", so many are cast", n == 0 ? 0 : 1, y.runs(0, 1));
                same("P13 machine: " + n + " BRASSES of " + sign + ", more are SPIKED", n == 0 ? 2 : 1, y.runs(0, 3));
            }
        }
    }

    /** One WORD of so many letters, in BITS of 12. */
    private static String bitsOf(String letter, int n) {
        StringBuilder word = new StringBuilder();
        for (int i = 0; i < n; i++) {
            word.append(i > 0 && i % 12 == 0 ? "-" : "").append(letter);
        }
        return word.toString();
    }

    /** A room in which one SLUG of two a, a b and a - is cast in minute 1, by a MACHINE of that BACK. */
    private static CountedRoom castOnce(int back) {
        CountedRoom x = new CountedRoom();
        Checks.style(x, 0, "measure 16");
        Checks.story(x, 0, 0, "aab-cd e");
        x.machine(9, back);
        x.machine(9, back);
        x.give(0, 0);
        x.minutes(1);
        x.broken(0, true);
        return x;
    }

    private static void thereNow() {
        for (int back = 0; back <= 9; back++) {
            CountedRoom x = castOnce(back);
            same("P14 brass: it was cast", "aab-", Checks.said(x, 0));
            for (int now = 1; now <= 11; now++) {
                String of = "P14 brass: BACK " + back + ", cast in minute 1, at " + now;
                boolean isOut = now < 1 + back;
                same(of + ", a", isOut ? 7 : 9, x.brass(0, 0, 9));
                same(of + ", b", isOut ? 8 : 9, x.brass(0, 1, 9));
                same(of + ", -", isOut ? 8 : 9, x.brass(0, 26, 9));
                same(of + ", e", 9, x.brass(0, 4, 9));
                same(of + ", of the other MACHINE", 9, x.brass(1, 0, 9));
                x.minutes(1);
            }
        }
    }

    private static void thereAtLeastNone() {
        CountedRoom x = castOnce(9);
        int[] there = {0, 0, 0, 1, 2};
        for (int n = 0; n < there.length; n++) {
            same("P14 brass: " + n + " less 2, 0 at least", there[n], x.brass(0, 0, n));
        }
        same("P14 brass: 40 less 2", 38, x.brass(0, 0, 40));
    }

    private static void brokenAndNot() {
        CountedRoom x = castOnce(0);
        same("P15 broken: it is, and is told so", false, x.broken(0, true));
        same("P18 runs: 1 if it is BROKEN", 1, x.runs(0, 4));
        same("P15 broken: it is, and is told not so", true, x.broken(0, false));
        same("P18 runs: 0 if it is not", 0, x.runs(0, 4));
        same("P15 broken: it is not, and is told not so", false, x.broken(0, false));
        same("P15 broken: it is not, and is told so", true, x.broken(0, true));
        same("P15 broken: the other one is not", 0, x.runs(1, 4));
        x.minutes(5);
        same("Part 4: a BROKEN one casts nothing", 1, x.count(4));
        same("Part 4: a BROKEN one does not wait", 0, x.runs(0, 2));
        same("Part 4: a BROKEN one keeps its JOB", 1, x.runs(0, 0));
        x.broken(0, false);
        x.minutes(1);
        same("Part 4: mended, it casts in the next minute", 2, x.count(4));
    }

    private static void givenOnce() {
        CountedRoom x = new CountedRoom();
        Checks.style(x, 0, Scenes.PAIRS);
        Checks.story(x, 0, 0, "ab/cd/abcdef");
        x.machine(9, 0);
        x.machine(9, 0);
        same("P8 part: it was not GIVEN", 0, x.part(0, 4));
        same("P16 give: the first JOB", 1, x.give(0, 0));
        same("P8 part: it was GIVEN", 1, x.part(0, 4));
        same("P16 give: a second time, in the QUEUE", NONE, x.give(0, 0));
        same("P16 give: a second time, to the other one", NONE, x.give(0, 1));
        x.minutes(1);
        same("P16 give: a second time, cast", NONE, x.give(0, 0));
        same("P16 give: to one with an empty QUEUE", 1, x.give(2, 0));
        x.minutes(1);
        same("P18 runs: SPIKED", 1, x.runs(0, 3));
        same("P16 give: a second time, SPIKED", NONE, x.give(2, 0));
        same("P8 part: SPIKED, it was GIVEN", 1, x.part(2, 4));
        x.broken(1, true);
        same("P16 give: to a BROKEN one", 1, x.give(1, 1));
    }

    private static void thirtyJobs() {
        CountedRoom x = new CountedRoom();
        Checks.style(x, 0, Scenes.PAIRS);
        for (int i = 0; i < 7; i++) {
            Checks.story(x, 0, 0, "a/b/c/d/e");
        }
        x.machine(9, 0);
        x.machine(9, 0);
        for (int i = 0; i < 30; i++) {
            same("P16 give: one of 30 JOBS", i + 1, x.give(i, 0));
            same("P18 runs: so many JOBS", i + 1, x.runs(0, 0));
        }
        refuses("P16 give: a 31st JOB", UNSUPPORTED, () -> x.give(30, 0));
        same("P8 part: it was not GIVEN by that", 0, x.part(30, 4));
        same("P16 give: to the other one", 1, x.give(30, 1));
        same("P48 count: JOBS in all QUEUES", 31, x.count(12));
        x.minutes(1);
        same("P18 runs: 29 JOBS a minute later", 29, x.runs(0, 0));
        same("P16 give: a 30th JOB again", 30, x.give(31, 0));
        refuses("P16 give: a 31st again", UNSUPPORTED, () -> x.give(32, 0));
        x.minutes(30);
        same("Part 4: all of them are cast in their turn", 32, x.count(4));
        for (int i = 0; i < 30; i++) {
            same("Part 4: as they came", i == 0 ? 0 : i, x.slug(i == 0 ? 0 : i + 1, 0));
        }
    }

    private static void minutesOfACall() {
        CountedRoom x = new CountedRoom();
        same("P17 minutes: NOW is 0 at first", 0, x.count(0));
        same("P17 minutes: none", 0, x.minutes(0));
        same("P17 minutes: one", 1, x.minutes(1));
        same("P17 minutes: 119", 120, x.minutes(119));
        same("P17 minutes: 120", 240, x.minutes(120));
        same("P48 count: NOW", 240, x.count(0));
        refuses("P17 minutes: 121", ARGUMENT, () -> x.minutes(121));
        refuses("P17 minutes: -1", ARGUMENT, () -> x.minutes(-1));
        same("P17 minutes: NOW stays", 240, x.count(0));
    }

    private static void lastMinute() {
        CountedRoom x = new CountedRoom();
        Checks.style(x, 0, Scenes.PAIRS);
        Checks.story(x, 0, 0, "ab cd ef gh ij kl");
        x.machine(9, 0);
        for (int i = 0; i < 4; i++) {
            x.minutes(120);
        }
        same("P17 minutes: up to 598", 598, x.minutes(118));
        x.give(0, 0);
        same("P17 minutes: 120 of which 2 are left", 600, x.minutes(120));
        same("Part 4: minutes 599 and 600 cast", 2, x.count(4));
        same("P19 slug: of minute 599", 599, x.slug(0, 2));
        same("P19 slug: of minute 600", 600, x.slug(1, 2));
        same("P17 minutes: one more", 600, x.minutes(1));
        same("P17 minutes: none more", 600, x.minutes(0));
        same("Part 4: there is no minute 601", 2, x.count(4));
        same("P18 runs: its JOB stays", 1, x.runs(0, 0));
        same("P48 count: ROWS", 8, x.count(14));
        same("P43 row: of minute 600", 1, x.row(7, 0));
    }

    /** LINES of two a each, of a MACHINE with so many: how many are cast in three minutes, BACK 1. */
    private static int castOf(int brasses) {
        CountedRoom x = new CountedRoom();
        Checks.style(x, 0, Scenes.PAIRS);
        Checks.story(x, 0, 0, "ab ac ad ae af ag");
        x.machine(9, 1);
        x.brass(0, 0, brasses);
        x.give(0, 0);
        x.minutes(3);
        return 100 * x.runs(0, 3) + 10 * x.runs(0, 2) + x.count(4);
    }

    private static void waitsForJustSoMany() {
        same("Part 4: no BRASS, SPIKED", 100, castOf(0));
        same("Part 4: one less than is needed, SPIKED", 100, castOf(1));
        same("Part 4: just as many as are needed, it WAITS once", 12, castOf(2));
        same("Part 4: one less than are needed THERE, it WAITS once", 12, castOf(3));
        same("Part 4: just as many as are needed THERE", 3, castOf(4));
        same("Part 4: one more than that", 3, castOf(5));
    }

    private static void backOfEach() {
        for (int back = 0; back <= 9; back++) {
            CountedRoom x = new CountedRoom();
            Checks.style(x, 0, Scenes.PAIRS);
            Checks.story(x, 0, 0, "ab cd ab cd");
            x.machine(1, back);
            x.give(0, 0);
            for (int now = 1; now <= back + 3; now++) {
                x.minutes(1);
                String of = "Part 4: BACK " + back + ", at " + now;
                same(of + ", SLUGS", now < 2 + back ? 1 : 2, x.count(4));
                same(of + ", WAITED", Math.min(back, now - 1), x.runs(0, 2));
            }
            same("Part 4: BACK " + back + ", the second one", 2 + back, x.slug(1, 2));
        }
    }

    private static void onlyItsOwnMachine() {
        CountedRoom x = new CountedRoom();
        Checks.style(x, 0, Scenes.PAIRS);
        Checks.story(x, 0, 0, "ab / ab / ab / ab");
        for (int i = 0; i < 4; i++) {
            x.machine(1, 9);
            x.give(i, i);
        }
        x.minutes(1);
        same("Part 4: four MACHINES in one minute", 4, x.count(4));
        for (int i = 0; i < 4; i++) {
            same("Part 4: by numbers", i, x.slug(i, 1));
            same("P43 row: of each of them", i, x.row(0, i));
        }
    }

    private static void needsMoreThanBrasses() {
        CountedRoom x = new CountedRoom();
        Checks.style(x, 0, Scenes.PAIRS);
        Checks.story(x, 0, 0, "ab cd ef gh");
        Checks.story(x, 0, 0, "ab");
        x.machine(1, 9);
        x.brass(0, 7, 0);
        x.give(0, 0);
        x.minutes(2);
        same("Part 4: the second LINE needs an h", 1, x.runs(0, 3));
        same("P18 runs: the JOB is away", 0, x.runs(0, 0));
        same("P8 part: its PART is SET", 2, x.part(0, 5));
        same("P8 part: one PLACE is RIGHT", 1, x.part(0, 6));
        x.brass(0, 7, 1);
        x.give(5, 0);
        x.minutes(1);
        same("Part 4: more than BRASSES comes ahead of more than are THERE", 1, x.runs(0, 3));
        same("Part 4: this one WAITS", 1, x.runs(0, 2));
        x.brass(0, 0, 0);
        x.minutes(1);
        same("Part 4: SPIKED, though it waited", 2, x.runs(0, 3));
        same("P18 runs: WAITED once", 1, x.runs(0, 2));
    }

    private static void hyphensAreNeeded() {
        CountedRoom x = new CountedRoom();
        Checks.style(x, 0, "measure 12; part 0");
        Checks.story(x, 0, 0, "ab-cd-ef");
        x.machine(9, 9);
        x.brass(0, 26, 1);
        x.give(0, 0);
        x.minutes(2);
        same("Part 4: one - is not THERE for the second LINE", 1, x.runs(0, 2));
        same("P20 says: the first one", "ab-", Checks.said(x, 0));
        x.brass(0, 26, 2);
        x.minutes(1);
        same("P20 says: the second one", "cd-", Checks.said(x, 1));
        x.brass(0, 26, 0);
        x.minutes(1);
        same("Part 4: the last LINE needs no -", "ef", Checks.said(x, 2));
        CountedRoom y = new CountedRoom();
        Checks.style(y, 0, "measure 12; part 0");
        Checks.story(y, 0, 0, "ab-cd");
        y.machine(9, 0);
        y.brass(0, 26, 0);
        y.give(0, 0);
        y.minutes(1);
        same("Part 4: no -, SPIKED", 1, y.runs(0, 3));
    }

    private static void spikedIsAMinute() {
        CountedRoom x = new CountedRoom();
        Checks.style(x, 0, Scenes.PAIRS);
        Checks.story(x, 0, 0, "abcdef/abcdef/ab");
        x.machine(9, 0);
        x.give(0, 0);
        x.give(1, 0);
        x.give(2, 0);
        for (int now = 1; now <= 2; now++) {
            x.minutes(1);
            same("Part 4: SPIKED, one a minute, at " + now, now, x.runs(0, 3));
            same("Part 4: and nothing is cast, at " + now, 0, x.count(4));
            same("P18 runs: the JOBS that are left, at " + now, 3 - now, x.runs(0, 0));
            same("P18 runs: the PART of the first one, at " + now, now, x.runs(0, 5));
        }
        x.minutes(1);
        same("Part 4: the third one is cast", 1, x.count(4));
        same("P8 part: SPIKED, it is not SET", NONE, x.part(0, 5));
        refuses("P21 lies: SPIKED, it is not SET", STATE, () -> x.lies(0, 0));
    }

    private static void lastLineOfAJob() {
        CountedRoom x = new CountedRoom();
        Checks.style(x, 0, Scenes.PAIRS);
        Checks.story(x, 0, 0, "ab cd ef gh / ij");
        x.machine(9, 0);
        x.give(0, 0);
        x.give(1, 0);
        x.minutes(1);
        same("Part 4: the first LINE, the JOB stays", 2, x.runs(0, 0));
        x.minutes(1);
        same("Part 4: with the last LINE the JOB is away", 1, x.runs(0, 0));
        same("P18 runs: the next JOB", 1, x.runs(0, 5));
        same("Part 4: the next one is not begun in that minute", NONE, x.part(1, 5));
        x.minutes(1);
        same("Part 4: it is begun in the next one", 1, x.part(1, 5));
        same("P18 runs: no JOB", 0, x.runs(0, 0));
        same("P18 runs: no PART", NONE, x.runs(0, 5));
    }

    private static void setByNow() {
        CountedRoom x = new CountedRoom();
        Checks.style(x, 0, "measure 18; space 2 2");
        Checks.style(x, 1, "measure 28; space 2 2");
        Checks.style(x, 2, "measure 400");
        Checks.story(x, 0, 0, "ab cd ef ab cd ef");
        x.machine(40, 0);
        x.give(0, 0);
        same("P10 best: three LINES by the STYLE of 0", 3, x.best(0, 0));
        x.minutes(1);
        same("Part 4: SET by the STYLE of the minute that begins", 2, x.part(0, 5));
        x.minutes(1);
        same("Part 4: SET once", 2, x.part(0, 5));
        same("P11 ends: as it is SET", 2, x.ends(0, 0));
        same("P10 best: by the STYLE of NOW", 1, x.best(0, 0));
    }

    private static void threeHundred() {
        CountedRoom x = new CountedRoom();
        Scenes.slugs(x);
        same("Part 4: 300 SLUGS", 300, x.count(4));
        same("P19 slug: the last one", 299, x.row(7, 2));
        same("P19 slug: its minute", 100, x.slug(299, 2));
        refuses("P19 slug: SLUG 300 of 300", INDEX, () -> x.slug(300, 0));
        refuses("P20 says: SLUG 300 of 300", INDEX, () -> x.says(300, 0));
        int jobs = x.count(12);
        x.minutes(1);
        same("Part 4: no 301st", 300, x.count(4));
        for (int machine = 0; machine < 3; machine++) {
            same("Part 4: each MACHINE WAITS", 1, x.runs(machine, 2));
            same("P43 row: none is cast", NONE, x.row(7, machine));
        }
        same("Part 4: the JOBS stay", jobs, x.count(12));
        x.pie(0);
        x.minutes(1);
        same("Part 4: a PIED one is one of 300", 300, x.count(4));
        x.brass(1, 0, 1);
        x.minutes(1);
        same("Part 4: more than BRASSES comes ahead of 300 SLUGS", 1, x.runs(1, 3));
        same("Part 4: it did not WAIT", 2, x.runs(1, 2));
        same("P41 ahead: no end with 300 SLUGS", NONE, x.ahead(NONE));
    }

    private static void runsAtTheEdges() {
        CountedRoom x = new CountedRoom();
        x.machine(0, 0);
        int[] fresh = {0, 0, 0, 0, 0, NONE};
        for (int what = 0; what < 6; what++) {
            same("P18 runs: of a new MACHINE, what " + what, fresh[what], x.runs(0, what));
        }
        refuses("P18 runs: what 6", NO_ELEMENT, () -> x.runs(0, 6));
        refuses("P18 runs: what -1", NO_ELEMENT, () -> x.runs(0, -1));
    }

    private static void slugsAndTheirNumbers() {
        CountedRoom x = new CountedRoom();
        Checks.style(x, 0, Scenes.PAIRS);
        Checks.story(x, 0, 0, "ab cd ef gh ij");
        x.machine(9, 0);
        x.give(0, 0);
        for (int n = 0; n < 3; n++) {
            int next = n;
            refuses("P19 slug: SLUG " + n + " of " + n, INDEX, () -> x.slug(next, 0));
            same("P48 count: SLUGS", n, x.count(4));
            x.minutes(1);
            same("P19 slug: its LINE", n, x.slug(n, 9));
            same("P19 slug: its PLACE", n, x.slug(n, 5));
            same("P19 slug: its minute", n + 1, x.slug(n, 2));
        }
        x.pie(1);
        same("P19 slug: PIED, no PLACE", NONE, x.slug(1, 5));
        same("P19 slug: PIED, no PART of that", NONE, x.slug(1, 6));
        same("P19 slug: PIED, its PART", 0, x.slug(1, 0));
        same("P19 slug: PIED, its LINE", 1, x.slug(1, 9));
    }

    private static void says() {
        CountedRoom x = new CountedRoom();
        Checks.style(x, 0, "measure 400; space 1 40");
        Checks.story(x, 0, 0, "a / a  b / a-b");
        x.machine(9, 0);
        Rooms.castAll(x);
        String[] due = {"a", "a b", "ab"};
        for (int slug = 0; slug < 3; slug++) {
            int length = due[slug].length();
            same("P20 says: all of it", due[slug], Checks.said(x, slug));
            same("P20 says: byte -1", NONE, x.says(slug, -1));
            same("P20 says: the first byte", 'a', x.says(slug, 0));
            same("P20 says: the last byte", due[slug].charAt(length - 1), x.says(slug, length - 1));
            same("P20 says: the byte behind it", NONE, x.says(slug, length));
            same("P20 says: the least", NONE, x.says(slug, Integer.MIN_VALUE));
            same("P20 says: the most", NONE, x.says(slug, Integer.MAX_VALUE));
        }
    }

    /** As many letters in a LINE as WIDTH 1 and MEASURE 400 let stand: the BRASSES are what limits them. */
    private static void longestLine() {
        CountedRoom x = new CountedRoom();
        for (int sign = 0; sign < 26; sign++) {
            x.width(0, sign, 1);
        }
        Checks.style(x, 0, "measure 400; space 1 40");
        String text = Checks.many("abcdefghijkl-mnopqrstuvwx", 15, " ");
        Checks.story(x, 0, 0, text);
        x.machine(15, 0);
        same("P10 best: 360 letters and 14 GAPS", 1, x.best(0, 0));
        x.give(0, 0);
        x.minutes(1);
        same("P19 slug: 360 letters", 360, x.slug(0, 3));
        same("P20 says: byte 0", 'a', x.says(0, 0));
        same("P20 says: byte 373", 'x', x.says(0, 373));
        same("P20 says: byte 374", NONE, x.says(0, 374));
        same("P27 slip: letter 359", true, x.slip(0, 359, 0));
        same("P20 says: byte 373 then", 'a', x.says(0, 373));
        refuses("P27 slip: letter 360", ARGUMENT, () -> x.slip(0, 360, 0));
    }

    private static void places() {
        CountedRoom x = new CountedRoom();
        Checks.style(x, 0, Scenes.PAIRS);
        Checks.story(x, 0, 0, "ab cd ef gh / ij");
        x.machine(9, 0);
        refuses("P21 lies: not SET", STATE, () -> x.lies(0, 0));
        refuses("P22 judge: not SET", STATE, () -> x.judge(0));
        x.give(0, 0);
        x.minutes(1);
        same("P21 lies: PLACE 0 of two", 0, x.lies(0, 0));
        same("P21 lies: PLACE 1 of two, not cast", NONE, x.lies(0, 1));
        refuses("P21 lies: PLACE 2 of two", INDEX, () -> x.lies(0, 2));
        refuses("P21 lies: PLACE -1 of two", INDEX, () -> x.lies(0, -1));
        refuses("P21 lies: the other PART is not SET", STATE, () -> x.lies(1, 0));
        refuses("P21 lies: no PART", INDEX, () -> x.lies(2, 0));
        same("P22 judge: PLACE 1 is not RIGHT", 1, x.judge(0));
        x.minutes(1);
        same("P21 lies: PLACE 1 of two", 1, x.lies(0, 1));
        same("P22 judge: all are RIGHT", NONE, x.judge(0));
        x.pie(0);
        same("P21 lies: nothing at PLACE 0", NONE, x.lies(0, 0));
        same("P22 judge: PLACE 0 is not RIGHT", 0, x.judge(0));
        same("P8 part: one is RIGHT", 1, x.part(0, 6));
        x.pie(1);
        same("P8 part: none is RIGHT", 0, x.part(0, 6));
        same("P8 part: two of its SLUGS are PIED", 2, x.part(0, 7));
    }

    private static void right() {
        CountedRoom x = new CountedRoom();
        Checks.style(x, 0, Scenes.PAIRS);
        Checks.story(x, 0, 0, "ab cd / ab cd / ab ce");
        Checks.story(x, 1, 0, "ab cd");
        x.machine(9, 0);
        Rooms.castAll(x);
        x.change(0, 1);
        same("Part 4: the SLUG of another PART that SAYS the same", NONE, x.judge(0));
        x.change(0, 3);
        same("Part 4: one in another FACE that SAYS the same", 0, x.judge(1));
        same("Part 4: and the other way round", 0, x.judge(5));
        x.change(0, 3);
        x.change(1, 2);
        same("Part 4: one that SAYS another letter at its end", 0, x.judge(0));
        x.slip(2, 3, 3);
        same("Part 4: a WRONG one that SAYS what the LINE SAYS", NONE, x.judge(0));
        same("P19 slug: it is WRONG nevertheless", 1, x.slug(2, 8));
        x.slip(2, 3, 5);
        same("Part 4: a letter of it is another one", 0, x.judge(0));
    }
}
