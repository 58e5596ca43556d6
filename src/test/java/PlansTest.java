/** Promises 40 to 42: LEAST LATE, AHEAD, and PAY. */
public final class PlansTest extends Checked {
    public static void main(String[] args) {
        leastOfNothing();
        leastOfOne();
        leastOrder();
        leastMachines();
        leastQueues();
        leastFirstFive();
        leastByTheStyleOfNow();
        ahead();
        aheadWaits();
        aheadOfWhatWasCast();
        aheadAgain();
        aheadOfLastMinutes();
        aheadChangesNothing();
        pay();
        payFat();
        payFree();
        payMinutes();
        payByTheStyleOfItsMinute();
        payOfCorrected();
        payThenRule();
        payTogether();
        Checks.finish("PlansTest");
    }

    private static CountedRoom singles(int machines) {
        CountedRoom x = Rooms.singles();
        for (int i = 0; i < machines; i++) {
            x.machine(40, 0);
        }
        return x;
    }

    private static String words(int n) {
        return Checks.many("aa", n, " ");
    }

    private static void leastOfNothing() {
        CountedRoom x = Rooms.singles();
        same("P40 no part", 0, x.least());
        Checks.story(x, 0, 0, "aaa");
        same("P40 a part without best", 0, x.least());
        Checks.story(x, 0, 600, "aa");
        same("P40 no machine", NONE, x.least());
        x.machine(40, 0);
        same("P40 a machine", 0, x.least());
        x.broken(0, true);
        same("P40 a broken one", NONE, x.least());
        x.give(5, 0);
        same("P40 the part is given", 0, x.least());
    }

    private static void leastOfOne() {
        CountedRoom x = singles(1);
        Checks.story(x, 0, 1, words(3));
        same("P40 ends at 3, due 1", 2, x.least());
        x.minutes(4);
        same("P40 ends at 7", 6, x.least());
        Checks.story(x, 0, 600, words(2));
        same("P40 another one that is never late", 6, x.least());
        CountedRoom y = singles(1);
        Checks.story(y, 0, 3, words(3));
        same("P40 just at its due", 0, y.least());
    }

    private static void leastOrder() {
        CountedRoom x = singles(1);
        Checks.story(x, 0, 3, words(3));
        Checks.story(x, 0, 1, words(1));
        same("P40 the second one first", 1, x.least());
        // the earliest due first is not the least: 5 lines due 5 and 1 line due 6, 1 line due 6
        CountedRoom y = singles(1);
        Checks.story(y, 0, 2, words(5));
        Checks.story(y, 0, 3, words(1));
        Checks.story(y, 0, 3, words(1));
        // 1 and 2, then 7: 5 late; the earliest due first: 5, 6, 7: 3 and 3 and 4
        same("P40 the short ones first", 5, y.least());
    }

    private static void leastMachines() {
        CountedRoom x = singles(2);
        Checks.story(x, 0, 0, words(4) + "/" + words(3) + "/" + words(2) + "/" + words(1));
        // 1 and 2, then 3 and 4: 1 2 4 6, or 1 and 3: 1 4 2 6: 13
        same("P40 two machines", 13, x.least());
        x.broken(1, true);
        // 1 3 6 10
        same("P40 one is broken", 20, x.least());
        x.machine(40, 0);
        x.machine(40, 0);
        // 1 and 4: 1 5, 2, 3
        same("P40 three", 11, x.least());
        x.broken(1, false);
        same("P40 four", 10, x.least());
    }

    private static void leastQueues() {
        CountedRoom x = singles(1);
        Checks.story(x, 0, 0, words(5));
        Checks.story(x, 0, 3, words(3));
        Checks.story(x, 0, 1, words(1));
        x.give(0, 0);
        same("P40 behind five lines", 11, x.least());
        x.minutes(2);
        same("P40 behind the three that are left", 11, x.least());
        x.minutes(3);
        same("P40 behind none", 11, x.least());
        x.minutes(1);
        same("P40 a minute later", 13, x.least());
        CountedRoom y = singles(2);
        Checks.story(y, 0, 0, "aaa");
        Checks.story(y, 0, 0, words(2));
        Checks.story(y, 0, 0, words(3));
        y.give(0, 0);
        same("P40 a queue with what has no best: 2 and 3", 5, y.least());
        y.give(5, 0);
        same("P40 by the other machine", 3, y.least());
        y.broken(1, true);
        same("P40 behind 2", 5, y.least());
        CountedRoom z = singles(1);
        Checks.story(z, 0, 0, words(3));
        Rooms.castAll(z);
        z.pie(0);
        z.pie(2);
        z.again(0, 0, 0);
        z.again(0, 2, 0);
        Checks.story(z, 0, 0, words(1));
        same("P40 behind two lines that are cast again", 6, z.least());
    }

    private static void leastFirstFive() {
        CountedRoom x = singles(1);
        Checks.story(x, 0, 0, "aa/aaa/aa/aa/aa");
        Checks.story(x, 0, 0, "aa/aa");
        same("P40 five of six: 1 2 3 4 5", 15, x.least());
        x.give(0, 0);
        // now 2 to 6
        same("P40 five still", 20, x.least());
        x.minutes(1);
        x.give(2, 0);
        // 3 to 6, of four parts
        same("P40 four of them", 18, x.least());
        CountedRoom y = singles(1);
        Checks.story(y, 0, 0, words(9) + "/" + words(9) + "/" + words(9) + "/" + words(9) + "/" + words(9));
        Checks.story(y, 0, 0, "aa");
        same("P40 the first ones by numbers, not the shortest", 9 * 15, y.least());
    }

    private static void leastByTheStyleOfNow() {
        CountedRoom x = singles(1);
        Checks.story(x, 0, 0, words(4));
        Checks.style(x, 1, "measure 400; space 1 40");
        same("P40 four lines", 4, x.least());
        x.minutes(1);
        same("P40 one line, in minute 2", 2, x.least());
    }

    private static void ahead() {
        CountedRoom x = singles(2);
        same("P41 no job", 0, x.ahead(NONE));
        same("P41 no job without a machine", 0, x.ahead(0));
        Checks.story(x, 0, 0, words(3));
        Checks.story(x, 0, 0, words(5));
        x.give(0, 0);
        same("P41 three lines", 3, x.ahead(NONE));
        same("P41 without the other one", 3, x.ahead(1));
        same("P41 without it", NONE, x.ahead(0));
        x.give(5, 1);
        same("P41 the longest queue", 5, x.ahead(NONE));
        x.minutes(2);
        same("P41 the same minute", 5, x.ahead(NONE));
        x.minutes(3);
        same("P41 now", 5, x.ahead(NONE));
        x.minutes(3);
        same("P41 now is later", 8, x.ahead(1));
        refuses("P41 machine 2", INDEX, () -> x.ahead(2));
        refuses("P41 machine -2", INDEX, () -> x.ahead(-2));
    }


    private static void aheadWaits() {
        CountedRoom x = Rooms.singles("aa aa aa", "aaa");
        x.machine(2, 1);
        x.give(0, 0);
        same("P41 it waits twice", 5, x.ahead(NONE));
        x.minutes(1);
        same("P41 after one", 5, x.ahead(NONE));
        x.give(5, 0);
        same("P41 a job that is spiked takes a minute", 6, x.ahead(NONE));
        x.brass(0, 0, 1);
        same("P41 both are spiked", 3, x.ahead(NONE));
        x.broken(0, true);
        same("P41 it is broken", NONE, x.ahead(NONE));
    }

    /** What was cast ahead of the question counts: of its own MACHINE, in the last minutes, in its FACE. */
    private static void aheadOfWhatWasCast() {
        CountedRoom x = Rooms.singles("aa", "aa", "bb");
        x.machine(2, 3);
        x.machine(2, 3);
        x.give(0, 1);
        x.minutes(1);
        x.give(5, 1);
        x.give(10, 0);
        same("P41 the brasses come back in minute 5", 5, x.ahead(NONE));
        same("P41 without the other one", 5, x.ahead(0) == NONE ? 5 : 0);
        x.minutes(4);
        same("P19 so it is", 5, x.slug(2, 2));
        CountedRoom y = new CountedRoom();
        for (int sign = 0; sign < 27; sign++) {
            y.width(1, sign, 5);
        }
        Checks.style(y, 0, "measure 10; space 1 40");
        Checks.style(y, 2, "measure 10; space 1 40; measure 400 if due < 7 or words > 8 or bits > 9");
        Checks.story(y, 1, 300, words(4));
        Checks.story(y, 1, 6, words(4));
        Checks.story(y, 1, 300, words(4));
        Checks.story(y, 1, 300, words(9));
        Checks.story(y, 1, 300, "a-a-a-a-a a-a-a-a-a");
        y.machine(40, 0);
        y.give(0, 0);
        y.minutes(3);
        y.give(5, 0);
        same("P41 one more of the first, one of the second", 5, y.ahead(NONE));
        y.give(10, 0);
        same("P41 four of the third, by the widths of its face", 9, y.ahead(NONE));
        y.give(15, 0);
        same("P41 one of nine words", 10, y.ahead(NONE));
        y.give(20, 0);
        same("P41 one of ten pieces", 11, y.ahead(NONE));
    }

    /** A question leaves nothing behind for the next one. */
    private static void aheadAgain() {
        CountedRoom x = singles(2);
        x.image();
        Checks.story(x, 0, 0, words(3));
        x.give(0, 0);
        same("P41 three", 3, x.ahead(1));
        same("P41 three again", 3, x.ahead(NONE));
        same("P41 none", NONE, x.ahead(0));
        x.back();
        Checks.story(x, 0, 0, words(2) + "/" + words(2));
        x.give(0, 1);
        same("P41 two", 2, x.ahead(0));
        same("P41 none without that", NONE, x.ahead(1));
        x.minutes(1);
        x.give(1, 1);
        same("P41 one and two", 4, x.ahead(NONE));
    }

    private static void aheadOfLastMinutes() {
        CountedRoom x = singles(1);
        Checks.story(x, 0, 0, words(2) + "/" + words(1));
        for (int i = 0; i < 4; i++) {
            x.minutes(120);
        }
        x.minutes(118);
        x.give(0, 0);
        same("P41 two lines from 598 on", 600, x.ahead(NONE));
        x.give(1, 0);
        same("P41 three lines", NONE, x.ahead(NONE));
        x.minutes(120);
        same("P41 at the end", NONE, x.ahead(NONE));
        CountedRoom y = singles(1);
        Checks.story(y, 0, 0, words(4));
        Checks.style(y, 2, "measure 400; space 1 40");
        y.give(0, 0);
        same("P41 set in minute 1", 4, y.ahead(NONE));
        y.broken(0, true);
        y.minutes(1);
        y.broken(0, false);
        same("P41 set in minute 2 by what is in force then", 2, y.ahead(NONE));
    }

    private static void aheadChangesNothing() {
        CountedRoom x = singles(2);
        Checks.story(x, 0, 0, words(3));
        x.give(0, 0);
        x.ahead(0);
        x.ahead(NONE);
        same("P41 now", 0, x.count(0));
        same("P41 no slugs", 0, x.count(4));
        same("P41 no rows", 0, x.count(14));
        same("P41 it is not broken", 0, x.runs(0, 4));
        same("P41 it is not set", NONE, x.part(0, 5));
        same("P41 its job is there", 1, x.runs(0, 0));
    }

    private static CountedRoom paid(String rules, int due, int words) {
        CountedRoom x = Rooms.singles();
        Checks.style(x, 0, "measure 10; space 1 40;" + rules);
        Checks.story(x, 0, due, words(words));
        x.machine(40, 0);
        Rooms.castAll(x);
        return x;
    }

    private static void pay() {
        CountedRoom x = paid("pay 15", 0, 3);
        same("P42 three times 2 letters", 9, x.pay(0, 0, 600));
        x.machine(40, 0);
        same("P42 another machine", 0, x.pay(1, 0, 600));
        x.pie(0);
        x.slip(1, 0, 25);
        same("P42 also pied and wrong ones", 9, x.pay(0, 0, 600));
        refuses("P42 machine 2", INDEX, () -> x.pay(2, 0, 600));
        refuses("P42 machine -1", INDEX, () -> x.pay(-1, 0, 600));
        same("P42 without a rule", 0, paid("fat 9", 0, 3).pay(0, 0, 600));
        same("P42 the last rule that holds", 6, paid("pay 15; pay 10; pay 99 if head", 0, 3).pay(0, 0, 600));
        same("P42 none that holds", 0, paid("pay 99 if head", 0, 3).pay(0, 0, 600));
        same("P42 late ones more: 2 of 10, 2 of 30", 8, paid("pay 10; pay 30 if late", 1, 2).pay(0, 0, 600));
        same("P42 by its machine", 6, paid("pay 10 if machine < 1", 0, 3).pay(0, 0, 600));
        same("P42 by its words", 6, paid("pay 10 if words > 2 and words < 4", 0, 3).pay(0, 0, 600));
        same("P42 by its bits", 0, paid("pay 10 if bits > 3", 0, 3).pay(0, 0, 600));
        same("P42 by its due", 6, paid("pay 10 if due > 6", 7, 3).pay(0, 0, 600));
        same("P42 by its letters", 6, paid("pay 10 if letters > 1 and letters < 3", 0, 3).pay(0, 0, 600));
        CountedRoom y = Rooms.pairs(9, 0, "abcd-ab cd");
        Checks.style(y, 0, "measure 20; space 2 6; pay 10");
        Rooms.castAll(y);
        same("P42 a - is a letter, too, a blank is not", 9, y.pay(0, 0, 600));
    }

    private static void payFat() {
        same("P42 5 at least", 22, paid("pay 15; fat 5", 0, 3).pay(0, 0, 600));
        same("P42 2 are 2", 9, paid("pay 15; fat 2", 0, 3).pay(0, 0, 600));
        same("P42 1 is 2", 9, paid("fat 1; pay 15", 0, 3).pay(0, 0, 600));
    }

    private static void payFree() {
        same("P42 free behind minute 2", 6, paid("pay 15; free if minute > 2", 0, 3).pay(0, 0, 600));
        same("P42 some free rule", 3, paid("free if minute > 2; pay 15; free if minute < 2; free if head", 0, 3)
            .pay(0, 0, 600));
        same("P42 fat does not matter", 0, paid("pay 15; fat 99; free if not head", 0, 3).pay(0, 0, 600));
    }

    private static void payMinutes() {
        CountedRoom x = paid("pay 50", 0, 5);
        same("P42 both minutes, too", 30, x.pay(0, 2, 4));
        same("P42 one minute", 10, x.pay(0, 5, 5));
        same("P42 from behind to ahead", 0, x.pay(0, 4, 2));
        same("P42 all there are", 50, x.pay(0, Integer.MIN_VALUE, Integer.MAX_VALUE));
        same("P42 none behind", 0, x.pay(0, 6, 600));
    }

    private static void payByTheStyleOfItsMinute() {
        CountedRoom x = Rooms.singles(words(3));
        Checks.style(x, 2, "measure 10; space 1 40; pay 20");
        x.machine(40, 0);
        x.give(0, 0);
        x.minutes(3);
        same("P42 nothing for minute 1", 8, x.pay(0, 0, 600));
        Checks.style(x, 3, "pay 100; fat 4");
        same("P42 as told now", 44, x.pay(0, 0, 600));
        same("P42 minute 2 alone", 4, x.pay(0, 2, 2));
    }

    private static void payOfCorrected() {
        CountedRoom x = paid("pay 10; pay 100 if corrected", 0, 3);
        Checks.correct(x, 0, 1, 0, "bb");
        x.minutes(1);
        same("P42 three and one corrected", 26, x.pay(0, 0, 600));
        CountedRoom y = Rooms.pairs(9, 0, "ab cd ef");
        Checks.style(y, 0, "measure 20; space 2 6; pay 10; free if bits > 3");
        Rooms.castAll(y);
        same("P42 three bits", 6, y.pay(0, 0, 600));
        Checks.correct(y, 0, 2, 0, "e-f");
        same("P42 four bits now", 0, y.pay(0, 0, 600));
    }

    /** What a SLUG is stays with it, and does not go over to a PART that is asked next. */
    private static void payThenRule() {
        CountedRoom x = paid("pay 10 if corrected; measure 20 if corrected; measure 30 if letters > 0; measure 40 if machine < 9",
            0, 2);
        Checks.correct(x, 0, 1, 0, "bb");
        x.minutes(1);
        same("P42 the corrected one", 2, x.pay(0, 0, 600));
        same("P9 the part is not corrected", 10, x.rule(0, 3, 0));
        same("P9 by the first rule", 0, x.rule(0, 3, 5));
    }

    private static void payTogether() {
        same("P42 rounded down together", 1, paid("pay 3", 0, 3).pay(0, 0, 600));
        same("P42 not one by one", 4, paid("pay 3", 0, 7).pay(0, 0, 600));
    }
}
