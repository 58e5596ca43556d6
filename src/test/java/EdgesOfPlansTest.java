/**
 * Part 8, and promises 40 to 42: of each sentence that names an edge what is taken last and refused first, nothing,
 * one, as many as there may be, and one more.
 */
public final class EdgesOfPlansTest extends Edges {
    public static void main(String[] args) {
        leastOfNone();
        leastByDue();
        leastOfFive();
        leastAtTheEnd();
        leastOfAllWays();
        leastBehindQueues();
        leastOfFourMachines();
        leastWithoutBest();
        aheadOfNone();
        aheadByMinutes();
        aheadUpToTheLast();
        aheadWithoutOne();
        aheadSpiked();
        aheadThreeHundred();
        payOfNone();
        payRounds();
        payFat();
        payFree();
        payMinutes();
        payOfMost();
        payFactsOfASlug();
        payByItsMinute();
        Checks.finish("EdgesOfPlansTest");
    }

    /** Each WORD ab is a LINE; so many MACHINES. */
    private static CountedRoom room(int machines, String rules) {
        CountedRoom x = new CountedRoom();
        x.width(0, 0, 5);
        x.width(0, 1, 5);
        x.width(1, 0, 5);
        x.width(1, 1, 5);
        Checks.style(x, 0, "measure 10; space 1 40" + rules);
        for (int i = 0; i < machines; i++) {
            x.machine(40, 0);
        }
        return x;
    }

    private static String lines(int n) {
        return Checks.many("ab", n, " ");
    }

    private static void leastOfNone() {
        CountedRoom x = new CountedRoom();
        same("P40 least: a new room", 0, x.least());
        CountedRoom y = room(1, "");
        same("P40 least: a MACHINE and no PART", 0, y.least());
        Checks.story(y, 0, 600, "ab");
        same("P40 least: one PART and one MACHINE", 0, y.least());
        y.broken(0, true);
        same("P40 least: one PART and no MACHINE that is not BROKEN", NONE, y.least());
        y.give(0, 0);
        same("P40 least: no PART that was not GIVEN, and no MACHINE", 0, y.least());
        CountedRoom z = room(0, "");
        Checks.story(z, 0, 0, "ab");
        same("P40 least: one PART and no MACHINE at all", NONE, z.least());
    }

    private static void leastByDue() {
        for (int due = 0; due <= 5; due++) {
            CountedRoom x = room(1, "");
            Checks.story(x, 0, due, lines(3));
            same("Part 8: ends at 3, DUE " + due, Math.max(0, 3 - due), x.least());
            x.minutes(2);
            same("Part 8: ends at 5, DUE " + due, Math.max(0, 5 - due), x.least());
        }
    }

    private static void leastOfFive() {
        for (int many = 0; many <= 5; many++) {
            CountedRoom x = room(1, "");
            if (many > 0) {
                Checks.story(x, 0, 0, Checks.many("ab", many, "/"));
            }
            same("Part 8: " + many + " PARTS of a LINE", many * (many + 1) / 2, x.least());
            Checks.story(x, 0, 0, "ab/ab");
            int all = Math.min(5, many + 2);
            same("Part 8: two more than " + many + ", 5 at most", all * (all + 1) / 2, x.least());
        }
        // the 6th PART would be late by much
        CountedRoom y = room(1, "");
        Checks.story(y, 0, 600, "ab/ab/ab/ab/ab");
        Checks.story(y, 0, 0, lines(20));
        same("Part 8: the 6th does not count", 0, y.least());
        y.give(0, 0);
        same("Part 8: it is the 5th", 21, y.least());
        y.give(1, 0);
        same("Part 8: it is the 4th", 22, y.least());
    }

    private static void leastAtTheEnd() {
        CountedRoom x = room(1, "");
        Checks.story(x, 0, 600, lines(3));
        Checks.story(x, 0, 0, lines(2));
        for (int i = 0; i < 5; i++) {
            x.minutes(120);
        }
        same("Part 8: behind 600, too", 602 + 5, x.least());
    }

    private static void leastOfAllWays() {
        CountedRoom x = room(1, "");
        Checks.story(x, 0, 4, lines(4));
        Checks.story(x, 0, 1, lines(1));
        same("Part 8: the second PART first", 1, x.least());
        CountedRoom v = room(1, "");
        Checks.story(v, 0, 4, lines(4));
        Checks.story(v, 0, 5, lines(1));
        same("Part 8: the first PART first", 0, v.least());
        CountedRoom y = room(1, "");
        Checks.story(y, 0, 5, lines(5) + "/ab/ab");
        same("Part 8: the longest one last", 2, y.least());
        CountedRoom z = room(2, "");
        Checks.story(z, 0, 3, lines(3) + "/" + lines(3) + "/" + lines(2) + "/" + lines(1));
        // 3 and 3 by one each, 2 and 1 ahead or behind: 1 and 3 late by 1, 2 and 3 late by 2
        same("Part 8: on two MACHINES", 3, z.least());
        CountedRoom w = room(2, "");
        Checks.story(w, 0, 1, "ab/ab/ab/ab/ab");
        same("Part 8: three on one and two on the other", 0 + 1 + 2 + 0 + 1, w.least());
    }

    private static void leastBehindQueues() {
        CountedRoom x = room(1, "");
        Checks.story(x, 0, 0, lines(3) + "/" + lines(2) + "/abab/ab");
        same("Part 8: no QUEUE, 1 and 3 and 6", 10, x.least());
        x.give(0, 0);
        same("Part 8: behind three LINES, not SET", 4 + 6, x.least());
        x.give(2, 0);
        same("Part 8: a PART without BEST has none", 4 + 6, x.least());
        x.minutes(1);
        same("Part 8: behind two LINES that are left", 4 + 6, x.least());
        x.minutes(2);
        same("Part 8: behind a PART without BEST alone", 4 + 6, x.least());
        x.minutes(1);
        same("Part 8: behind no QUEUE, a minute later", 5 + 7, x.least());
        x.pie(0);
        x.again(0, 0, 0);
        same("Part 8: behind one LINE that is cast AGAIN", 6 + 8, x.least());
        x.give(1, 0);
        same("Part 8: behind that and two LINES", 8, x.least());
    }

    private static void leastOfFourMachines() {
        for (int machines = 1; machines <= 4; machines++) {
            CountedRoom x = room(machines, "");
            Checks.story(x, 0, 0, "ab/ab/ab/ab/ab");
            int[] due = {0, 15, 9, 7, 6};
            same("Part 8: five PARTS and MACHINES " + machines, due[machines], x.least());
            x.broken(machines - 1, true);
            same("Part 8: one less", machines == 1 ? NONE : due[machines - 1], x.least());
        }
    }

    private static void leastWithoutBest() {
        CountedRoom x = room(1, "");
        Checks.story(x, 0, 0, "abab");
        same("Part 8: a PART without BEST is none of them", 0, x.least());
        x.broken(0, true);
        same("Part 8: nor does it ask for a MACHINE", 0, x.least());
        x.broken(0, false);
        Checks.style(x, 1, "measure 20");
        same("Part 8: no BEST by the STYLE of NOW", 0, x.least());
        x.minutes(1);
        same("Part 8: BEST by the STYLE of NOW", 2, x.least());
    }

    private static void aheadOfNone() {
        CountedRoom x = new CountedRoom();
        same("P41 ahead: a new room", 0, x.ahead(NONE));
        refuses("P41 ahead: MACHINE 0 of none", INDEX, () -> x.ahead(0));
        refuses("P41 ahead: MACHINE -2", INDEX, () -> x.ahead(-2));
        CountedRoom y = room(4, "");
        y.minutes(7);
        for (int machine = -1; machine < 4; machine++) {
            same("P41 ahead: no JOB, without " + machine, 7, y.ahead(machine));
        }
        refuses("P41 ahead: MACHINE 4 of four", INDEX, () -> y.ahead(4));
    }

    private static void aheadByMinutes() {
        for (int lines = 1; lines <= 24; lines += 23) {
            CountedRoom x = room(2, "");
            Checks.story(x, 0, 0, lines(lines));
            x.minutes(3);
            x.give(0, 0);
            same("P41 ahead: " + lines + " LINES", 3 + lines, x.ahead(NONE));
            x.minutes(lines);
            same("P41 ahead: the minute in which it is so", 3 + lines, x.ahead(NONE));
            same("P48 count: all are cast", lines, x.count(4));
        }
    }

    private static void aheadUpToTheLast() {
        for (int lines = 1; lines <= 4; lines++) {
            CountedRoom x = room(1, "");
            Checks.story(x, 0, 0, lines(lines));
            for (int i = 0; i < 4; i++) {
                x.minutes(120);
            }
            x.minutes(117);
            x.give(0, 0);
            int due = lines <= 3 ? 597 + lines : NONE;
            same("P41 ahead: " + lines + " LINES from 597 on", due, x.ahead(NONE));
            x.minutes(3);
            same("P41 ahead: at 600, of " + lines, lines <= 3 ? 600 : NONE, x.ahead(NONE));
        }
    }

    private static void aheadWithoutOne() {
        CountedRoom x = room(2, "");
        Checks.story(x, 0, 0, lines(2) + "/" + lines(5));
        x.give(0, 0);
        same("P41 ahead: without the one that has the JOB", NONE, x.ahead(0));
        same("P41 ahead: without the other one", 2, x.ahead(1));
        x.give(1, 1);
        same("P41 ahead: both", 5, x.ahead(NONE));
        same("P41 ahead: without the first one", NONE, x.ahead(0));
        same("P41 ahead: without the second one", NONE, x.ahead(1));
        x.broken(1, true);
        same("P41 ahead: besides those that are BROKEN", NONE, x.ahead(NONE));
        same("P18 runs: the first one is not BROKEN by a PLAN", 0, x.runs(0, 4));
        x.minutes(2);
        x.broken(1, false);
        same("P41 ahead: the second one from 2 on", 7, x.ahead(0));
        same("P41 ahead: none without it", NONE, x.ahead(1));
    }

    private static void aheadSpiked() {
        CountedRoom x = room(1, "");
        Checks.story(x, 0, 0, "abab/ab/abab");
        x.give(0, 0);
        same("P41 ahead: SPIKED in one minute", 1, x.ahead(NONE));
        x.give(1, 0);
        x.give(2, 0);
        same("P41 ahead: SPIKED, cast, SPIKED", 3, x.ahead(NONE));
        Checks.style(x, 3, "measure 20");
        same("P41 ahead: by the STYLES of those minutes", 3, x.ahead(NONE));
        x.brass(0, 0, 0);
        same("P41 ahead: without BRASSES", 3, x.ahead(NONE));
        same("P48 count: NOW", 0, x.count(0));
        same("P18 runs: three JOBS still", 3, x.runs(0, 0));
        CountedRoom y = room(0, "");
        Checks.story(y, 0, 0, lines(3));
        y.machine(1, 9);
        y.give(0, 0);
        same("P41 ahead: WAITS nine minutes twice", 21, y.ahead(NONE));
    }

    private static void aheadThreeHundred() {
        CountedRoom x = new CountedRoom();
        Scenes.slugs(x);
        same("P41 ahead: 300 SLUGS, and JOBS", NONE, x.ahead(NONE));
        same("P48 count: NOW stays", 100, x.count(0));
        same("P18 runs: nothing WAITED", 0, x.runs(0, 2));
        x.brass(0, 0, 0);
        x.brass(1, 0, 0);
        x.brass(2, 0, 0);
        same("P41 ahead: 300 SLUGS, one JOB each is SPIKED", 101, x.ahead(NONE));
    }

    private static CountedRoom paid(String rules, int lines) {
        CountedRoom x = room(1, ";" + rules);
        Checks.story(x, 0, 600, lines(lines));
        x.give(0, 0);
        x.minutes(lines);
        return x;
    }

    private static void payOfNone() {
        CountedRoom x = room(1, "; pay 999");
        same("P42 pay: no SLUG", 0, x.pay(0, 0, 600));
        refuses("P42 pay: MACHINE 1 of one", INDEX, () -> x.pay(1, 0, 600));
        refuses("P42 pay: MACHINE -1", INDEX, () -> x.pay(-1, 0, 600));
        same("P42 pay: no pay RULE", 0, paid("fat 99", 3).pay(0, 0, 600));
        same("P42 pay: no pay RULE that holds", 0, paid("pay 999 if head", 3).pay(0, 0, 600));
        same("P42 pay: a pay RULE of 0", 0, paid("pay 999; pay 0", 3).pay(0, 0, 600));
        CountedRoom y = paid("pay 50", 3);
        y.machine(40, 0);
        same("P42 pay: of a MACHINE that cast none", 0, y.pay(1, 0, 600));
    }

    private static void payRounds() {
        // two letters a LINE
        int[] pays = {1, 4, 5, 9, 10, 14, 15};
        int[] due = {0, 0, 1, 1, 2, 2, 3};
        for (int i = 0; i < pays.length; i++) {
            same("P42 pay: 2 times " + pays[i], due[i], paid("pay " + pays[i], 1).pay(0, 0, 600));
        }
        for (int pay = 0; pay <= 40; pay++) {
            CountedRoom x = new CountedRoom();
            Checks.style(x, 0, "pay " + pay);
            Checks.story(x, 0, 0, "a");
            x.machine(9, 0);
            x.give(0, 0);
            x.minutes(1);
            same("P42 pay: one letter times " + pay, pay / 10, x.pay(0, 0, 600));
        }
        same("P42 pay: 24 SLUGS with no pay RULE", 0, paid("fat 9", 24).pay(0, 0, 600));
        same("P42 pay: 24 SLUGS that are free", 0, paid("pay 9; free if not head", 24).pay(0, 0, 600));
        same("P42 pay: 24 SLUGS with a pay RULE of 0", 0, paid("pay 0; fat 99", 24).pay(0, 0, 600));
        same("P42 pay: 9 times 2 times 1 by 10, rounded down", 1, paid("pay 1", 9).pay(0, 0, 600));
        same("P42 pay: 10 times 2 times 1 by 10", 2, paid("pay 1", 10).pay(0, 0, 600));
    }

    private static void payFat() {
        int[] fats = {0, 1, 2, 3, 99};
        int[] due = {20, 20, 20, 30, 990};
        for (int i = 0; i < fats.length; i++) {
            same("P42 pay: FAT " + fats[i], due[i], paid("pay 100; fat " + fats[i], 1).pay(0, 0, 600));
        }
        same("P42 pay: without a fat RULE", 20, paid("pay 100", 1).pay(0, 0, 600));
        same("P42 pay: the last fat RULE", 30, paid("pay 100; fat 99; fat 3", 1).pay(0, 0, 600));
    }

    private static void payFree() {
        same("P42 pay: a free RULE that holds", 0, paid("pay 100; free if minute > 0", 3).pay(0, 0, 600));
        same("P42 pay: a free RULE that does not", 60, paid("pay 100; free if minute < 1", 3).pay(0, 0, 600));
        same("P42 pay: one of two that holds", 0, paid("free if letters > 1; pay 100; free if head", 3).pay(0, 0, 600));
        same("P42 pay: of the first minute alone", 40, paid("pay 100; free if minute < 2", 3).pay(0, 0, 600));
    }

    private static void payMinutes() {
        CountedRoom x = paid("pay 50", 5);
        int[][] asked = {{1, 5}, {0, 600}, {1, 1}, {5, 5}, {0, 0}, {6, 6}, {2, 4}, {3, 2}, {0, 1}, {5, 600},
            {Integer.MIN_VALUE, Integer.MAX_VALUE}, {Integer.MIN_VALUE, 0}, {6, Integer.MAX_VALUE},
            {Integer.MAX_VALUE, Integer.MIN_VALUE}, {-1, 1}};
        int[] due = {50, 50, 10, 10, 0, 0, 30, 0, 10, 10, 50, 0, 0, 0, 10};
        for (int i = 0; i < asked.length; i++) {
            same("P42 pay: from " + asked[i][0] + " to " + asked[i][1], due[i], x.pay(0, asked[i][0], asked[i][1]));
        }
    }

    private static void payOfMost() {
        CountedRoom x = new CountedRoom();
        for (int sign = 0; sign < 26; sign++) {
            x.width(0, sign, 1);
        }
        Checks.style(x, 0, "measure 400; pay 999; fat 99");
        Checks.story(x, 0, 0, Checks.many("abcdefghijkl-mnopqrstuvwx", 15, " "));
        x.machine(40, 0);
        x.give(0, 0);
        x.minutes(1);
        same("P42 pay: 360 letters times 999", 35964, x.pay(0, 0, 600));
    }

    private static void payFactsOfASlug() {
        CountedRoom x = room(2, "; pay 10");
        Checks.story(x, 1, 2, "ab ab / ab");
        x.minutes(1);
        x.give(0, 1);
        x.minutes(2);
        // SLUG 0 of minute 2 and SLUG 1 of minute 3, both by MACHINE 1
        String[] conditions = {"head", "not head", "late", "not late", "words > 1 and words < 3", "words < 2",
            "bits > 1 and bits < 3", "due > 1 and due < 3", "minute < 3", "minute > 2", "minute > 1 and minute < 4",
            "letters > 1 and letters < 3", "letters > 2", "machine > 0 and machine < 2", "machine < 1", "corrected",
            "not corrected"};
        int[] due = {4, 0, 2, 2, 4, 0, 4, 4, 2, 2, 4, 4, 0, 4, 0, 0, 4};
        for (int i = 0; i < conditions.length; i++) {
            CountedRoom y = room(2, "; pay 10 if " + conditions[i]);
            Checks.story(y, 1, 2, "ab ab / ab");
            y.minutes(1);
            y.give(0, 1);
            y.minutes(2);
            same("Part 2: of SLUGS, " + conditions[i], due[i], y.pay(1, 0, 600));
        }
        CountedRoom z = new CountedRoom();
        Checks.style(z, 0, "measure 12; pay 10 if letters > 2 and letters < 4");
        Checks.story(z, 0, 0, "ab-cd");
        z.machine(9, 0);
        z.give(0, 0);
        z.minutes(2);
        same("Part 2: of SLUGS, a - is a letter, too", 3, z.pay(0, 0, 600));
    }

    private static void payByItsMinute() {
        CountedRoom x = room(1, "");
        Checks.style(x, 2, "measure 10; space 1 40; pay 50");
        Checks.style(x, 3, "pay 500");
        Checks.story(x, 0, 0, lines(3));
        x.give(0, 0);
        x.minutes(3);
        same("P42 pay: minute 1, no pay RULE", 0, x.pay(0, 1, 1));
        same("P42 pay: minute 2", 10, x.pay(0, 2, 2));
        same("P42 pay: minute 3", 100, x.pay(0, 3, 3));
        same("P42 pay: all", 110, x.pay(0, 0, 600));
        Checks.style(x, 3, "pay 5");
        same("P42 pay: of minute 3 as told NOW", 1, x.pay(0, 3, 3));
    }
}
