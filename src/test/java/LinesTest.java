/** Promises 10, 11 and 12: BEST, its ends, REACH, and BY HAND. */
public final class LinesTest extends Checked {
    public static void main(String[] args) {
        oneLine();
        badness();
        stretching();
        tiesByLines();
        tiesByFirstLine();
        hyphens();
        cost();
        reach();
        reachByWhatIsReached();
        fortyPieces();
        byHand();
        handIsLongestThatFits();
        styleOfNow();
        endsOfASetPart();
        refusals();
        Checks.finish("LinesTest");
    }

    private static CountedRoom room(String style, String copy) {
        CountedRoom x = new CountedRoom();
        Checks.style(x, 0, style);
        Checks.story(x, 0, 0, copy);
        return x;
    }

    private static void oneLine() {
        CountedRoom x = room("", "ab cd");
        same("P10 one line", 1, x.best(0, 0));
        same("P10 no badness in the last line", 0, x.best(0, 1));
        same("P10 reach", 2, x.best(0, 2));
        same("P11 end", 1, x.ends(0, 0));
        same("P11 no line 1", NONE, x.ends(0, 1));
        same("P11 no line -1", NONE, x.ends(0, -1));
        same("P12 one line", 1, x.hand(0, false));
        same("P12 no slack", 0, x.hand(0, true));
    }

    private static void badness() {
        // ab cd is 8 and 8 and one gap: 18 to 22 wide; 20 has 2 more than 18
        CountedRoom x = room("measure 20; space 2 6", "ab cd ef gh ij");
        same("P10 three lines", 3, x.best(0, 0));
        same("P10 twice 2 times 2", 8, x.best(0, 1));
        same("P11 ends", "1 3 4", Checks.ends(x, 0));
        CountedRoom full = room("measure 18; space 2 6", "ab cd ef gh");
        same("P10 just as wide as LEAST", 0, full.best(0, 1));
        CountedRoom over = room("measure 17; space 2 6", "ab cd ef gh");
        same("P10 too wide by 1", NONE, over.best(0, 0));
        same("P10 no badness then", NONE, over.best(0, 1));
        same("P11 no ends then", NONE, over.ends(0, 0));
        CountedRoom loose = room("measure 22; space 2 6", "ab cd ef gh");
        same("P10 just as wide as MOST", 16, loose.best(0, 1));
        CountedRoom looser = room("measure 23; space 2 6", "ab cd ef gh");
        same("P10 too narrow by 1", NONE, looser.best(0, 0));
        CountedRoom last = room("measure 400; space 1 1", "ab");
        same("P10 of the last line that is not asked", 1, last.best(0, 0));
    }

    private static void stretching() {
        // a line without a gap stands only as wide as MEASURE, but the last one
        CountedRoom x = room("measure 12; space 2 6", "abc de");
        same("P10 abc is 12 wide", 2, x.best(0, 0));
        CountedRoom y = room("measure 13; space 2 6", "abc de");
        same("P10 abc is not 13 wide", NONE, y.best(0, 0));
        same("P10 it reaches nothing", 0, y.best(0, 2));
    }

    /** A room in which a, b and the - are 5 wide, and to part a WORD costs nothing. */
    private static CountedRoom fives(String copy) {
        CountedRoom x = new CountedRoom();
        x.width(0, 0, 5);
        x.width(0, 1, 5);
        x.width(0, 26, 5);
        Checks.style(x, 0, "measure 10; space 1 40; part 0");
        Checks.story(x, 0, 0, copy);
        return x;
    }

    private static void tiesByLines() {
        CountedRoom x = room("measure 10; space 1 40", "a b c d");
        same("P10 two lines", 2, x.best(0, 0));
        same("P10 one left of 10", 1, x.best(0, 1));
        same("P11 the ends", "1 3", Checks.ends(x, 0));
        // "a-" and "b", or "ab": neither is bad
        CountedRoom y = fives("a-b");
        same("P10 the fewest lines", 1, y.best(0, 0));
        same("P10 no badness", 0, y.best(0, 1));
        same("P11 that one", "1", Checks.ends(y, 0));
        // "b cc" (25), "c cbaa" (1) and "cb ba", or "b cc c" (4), "cba-" (1), "a cb" (16 + 4 + 1) and "ba"
        CountedRoom w = new CountedRoom();
        w.width(0, 0, 2);
        w.width(0, 1, 2);
        w.width(0, 2, 1);
        w.width(0, 26, 5);
        Checks.style(w, 0, "measure 10; space 1 40; part 1");
        Checks.story(w, 0, 0, "b cc c cb-a-a cb ba");
        same("P10 as bad", 26, w.best(0, 1));
        same("P10 the fewest lines, not the longest first one", 3, w.best(0, 0));
        same("P11 these", "1 5 7", Checks.ends(w, 0));
        // "a-", "a-", "a-" and "a", or "a-", "a-" and "aa"
        CountedRoom z = fives("a-a-a-a");
        same("P10 three lines", 3, z.best(0, 0));
        same("P11 one, one and two", "0 1 3", Checks.ends(z, 0));
    }

    private static void tiesByFirstLine() {
        // "a-" and "b c", or "ab" and "c"
        CountedRoom x = fives("a-b c");
        same("P10 two lines", 2, x.best(0, 0));
        same("P10 no badness", 0, x.best(0, 1));
        same("P11 the longest first line", "1 2", Checks.ends(x, 0));
        // "aa" has to be alone, then it is as above
        CountedRoom y = fives("aa a-b c");
        same("P11 the longest second line", "0 2 3", Checks.ends(y, 0));
        CountedRoom z = room("measure 14; space 1 40", "a b c d e");
        same("P11 three and two", "2 4", Checks.ends(z, 0));
        CountedRoom w = room("measure 11; space 1 40", "a b c d e");
        same("P11 two, two and one", "1 3 4", Checks.ends(w, 0));
        same("P10 twice 4", 8, w.best(0, 1));
        waysAsBad();
    }

    private static void waysAsBad() {
        CountedRoom x = new CountedRoom();
        x.width(0, 0, 3);
        x.width(0, 1, 1);
        Checks.style(x, 0, "measure 10; space 1 40");
        Checks.story(x, 0, 0, "a a b a a b");
        same("P11 two of three", "2 5", Checks.ends(x, 0));
        same("P10 one left of 10", 1, x.best(0, 1));
        // "a a b" and "b a a" leave 1, "a a" leaves 3, "a a a" is too wide: three of them, in three orders
        Checks.story(x, 0, 0, "a a b a a b a a a");
        same("P10 four lines", 4, x.best(5, 0));
        same("P10 1, 1 and 9", 11, x.best(5, 1));
        same("P11 the longest ones first", "2 5 7 8", Checks.ends(x, 5));
        // "a a a" leaves 1, "a aa" 2, "a a" 5
        CountedRoom y = new CountedRoom();
        y.width(0, 0, 3);
        Checks.style(y, 0, "measure 12; space 1 40");
        Checks.story(y, 0, 0, "a a a a aa a");
        same("P11 the least bad, not the evenest", "2 4 5", Checks.ends(y, 0));
        same("P10 1 and 4", 5, y.best(0, 1));
    }

    private static void hyphens() {
        // "ab-" is 12 wide, "cd" 8 and without a gap
        CountedRoom x = room("measure 12; space 2 6", "ab-cd ef");
        same("P10 cd does not stand", NONE, x.best(0, 0));
        same("P10 ab- does", 1, x.best(0, 2));
        CountedRoom y = room("measure 12; space 4 4", "ab-c d-e");
        same("P11 abc and de", "1 3", Checks.ends(y, 0));
        // "abc d-" is 24 wide, "abc" 12, "ab-" 12
        CountedRoom z = room("measure 16; space 4 4; part 3", "ab-c d-e");
        same("P10 nothing is 16 wide", NONE, z.best(0, 0));
        CountedRoom w = room("measure 24; space 4 4; part 3", "ab-c d-eee");
        same("P11 abc d- and eee", "2 3", Checks.ends(w, 0));
        same("P10 3 for the part", 3, w.best(0, 1));
        CountedRoom v = room("measure 12", "ab-cd");
        same("P10 the hyphen is wide, too", 2, v.best(0, 0));
        same("P10 25 without a rule", 25, v.best(0, 1));
        v.width(0, 26, 3);
        same("P10 the hyphen is 3 wide", NONE, v.best(0, 0));
        v.width(0, 26, 5);
        same("P10 the hyphen is 5 wide", NONE, v.best(0, 0));
        CountedRoom u = room("measure 12", "ab-cd");
        u.width(1, 26, 5);
        same("P10 that of the other face", 2, u.best(0, 0));
    }

    private static void cost() {
        // "a b" 8 and 1 to 40 in 10: leaves 1; "a b-" 12 is too wide; in 13: "a b-" 13: leaves 0; "a" no
        CountedRoom x = room("measure 13; space 1 40; part 100", "a b-c d");
        // "a b-" (0 and 100) | "c d"; "a bc" 12 and 1 = 13: (0) | "d"
        same("P11 not parted", "2 3", Checks.ends(x, 0));
        same("P10 nothing", 0, x.best(0, 1));
        CountedRoom y = room("measure 13; space 1 40; part 100", "a b-cc d");
        same("P11 parted", "1 3", Checks.ends(y, 0));
        same("P10 a hundred", 100, y.best(0, 1));
    }

    private static void reach() {
        // eee is 12 wide
        CountedRoom x = room("measure 10; space 1 40", "a b c d eee");
        same("P10 no best", NONE, x.best(0, 0));
        same("P10 reach 4", 4, x.best(0, 2));
        CountedRoom y = room("measure 10; space 1 40", "aaa b");
        same("P10 reach 0", 0, y.best(0, 2));
        same("P12 none by hand", NONE, y.hand(0, false));
        same("P12 none by hand, slack", NONE, y.hand(0, true));
        CountedRoom z = room("measure 10; space 1 40", "a b c d e f");
        same("P10 reach all", 6, z.best(0, 2));
        // the third line does not stand, but the first two might end elsewhere
        CountedRoom w = room("measure 14; space 1 40", "a b c d eeee");
        same("P10 a b c is one, a b and c d are two", 4, w.best(0, 2));
    }

    private static void reachByWhatIsReached() {
        // "a b" stands, "b cc" would stand, but it can not begin there
        CountedRoom x = room("measure 14; space 1 40", "a b cc ffff");
        same("P10 two pieces", 2, x.best(0, 2));
        same("P10 no best", NONE, x.best(0, 0));
    }

    private static void fortyPieces() {
        CountedRoom x = fives(Checks.many("a", 40, "-"));
        same("P10 39 lines", 39, x.best(0, 0));
        same("P10 reach 40", 40, x.best(0, 2));
        same("P11 the last one", 39, x.ends(0, 38));
        same("P11 the one ahead", 37, x.ends(0, 37));
        same("P12 39 lines", 39, x.hand(0, false));
        CountedRoom y = fives(Checks.many("a", 39, "-") + "-aa");
        same("P10 40 lines", 40, y.best(0, 0));
        same("P12 40 lines", 40, y.hand(0, false));
        y.machine(40, 0);
        y.give(0, 0);
        y.minutes(40);
        same("P17 40 slugs", 40, y.count(4));
        same("P21 in the last place", 39, y.lies(0, 39));
        same("P20 it says", "aa", Checks.said(y, 39));
        same("P22 all right", NONE, y.judge(0));
        // "ba-" is 15 wide, "b-" 10: the last line but one stays
        same("P26 one line of forty", 40, Checks.correct(y, 0, 0, 0, Checks.many("b", 39, "-") + "-aa") + 1);
        same("P48 39 in the pot", 39, y.count(7));
        same("P21 the last one stays", 39, y.lies(0, 39));
    }

    private static void byHand() {
        CountedRoom x = room("measure 23; space 2 6", "ab cd ef gh ij");
        same("P12 three lines", 3, x.hand(0, false));
        same("P12 two do not stand", 2, x.hand(0, true));
        CountedRoom y = room("measure 22; space 2 6", "ab cd ef gh ij");
        same("P12 none does not stand", 0, y.hand(0, true));
        CountedRoom z = room("measure 10; space 2 6", "ab-cd ef");
        // "ab-" is 12 wide, "abcd" 16
        same("P12 not even one", NONE, z.hand(0, false));
        CountedRoom w = room("measure 12; space 2 6", "ab-cd ef");
        same("P12 ab- cd ef", 3, w.hand(0, false));
        same("P12 cd does not stand", 1, w.hand(0, true));
    }

    private static void handIsLongestThatFits() {
        // a- is too wide, and ab is not: more PIECES fit where fewer do not
        CountedRoom x = new CountedRoom();
        x.width(0, 26, 20);
        Checks.style(x, 0, "measure 16; space 1 40");
        Checks.story(x, 0, 0, "a-b c");
        same("P12 ab c is 13 wide", 1, x.hand(0, false));
        same("P12 it stands", 0, x.hand(0, true));
        same("P10 best alike", 1, x.best(0, 0));
        Checks.story(x, 0, 0, "a-b-c d-e f");
        // "abc" 12, "abc d-" no, "abc de" 21 no: so abc | de f
        same("P12 abc and de f", 2, x.hand(5, false));
        same("P12 abc does not stand", 1, x.hand(5, true));
    }

    private static void styleOfNow() {
        CountedRoom x = room("measure 20; space 2 6", "ab cd ef gh ij");
        Checks.style(x, 2, "measure 100");
        same("P10 by the style of now", 3, x.best(0, 0));
        x.minutes(2);
        same("P10 by that of minute 2", 1, x.best(0, 0));
        same("P11 by that of minute 2", 4, x.ends(0, 0));
        same("P12 by that of minute 2", 1, x.hand(0, false));
    }

    private static void endsOfASetPart() {
        CountedRoom x = room("measure 20; space 2 6", "ab cd ef gh ij");
        x.machine(40, 0);
        x.give(0, 0);
        x.minutes(1);
        Checks.style(x, 1, "measure 100");
        same("P11 as it is set", "1 3 4", Checks.ends(x, 0));
        same("P10 BEST is by now", 1, x.best(0, 0));
        same("P11 no line 3", NONE, x.ends(0, 3));
        same("P11 no line -1", NONE, x.ends(0, -1));
        same("P11 no line MAX", NONE, x.ends(0, Integer.MAX_VALUE));
    }

    private static void refusals() {
        CountedRoom x = room("", "ab cd");
        refuses("P10 part 1", INDEX, () -> x.best(1, 9));
        refuses("P10 what 3", NO_ELEMENT, () -> x.best(0, 3));
        refuses("P10 what -1", NO_ELEMENT, () -> x.best(0, -1));
        refuses("P11 part -1", INDEX, () -> x.ends(-1, 0));
        refuses("P11 part 5", INDEX, () -> x.ends(5, 0));
        refuses("P12 part 1", INDEX, () -> x.hand(1, true));
        same("P11 line MAX", NONE, x.ends(0, Integer.MAX_VALUE));
        same("P11 line MIN", NONE, x.ends(0, Integer.MIN_VALUE));
    }
}
