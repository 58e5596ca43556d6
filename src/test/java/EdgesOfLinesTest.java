/**
 * Part 3, and promises 10 to 12: of each sentence that names an edge the last MEASURE that is taken on each side, and
 * the first one that is not; no PIECE more than one, and as many as there may be.
 */
public final class EdgesOfLinesTest extends Edges {
    public static void main(String[] args) {
        standsByLeast();
        standsByMost();
        withoutGaps();
        lastPiece();
        parted();
        gapsWithinWords();
        gapsOfMost();
        badness();
        costs();
        reach();
        byHand();
        slack();
        onePiece();
        fortyLines();
        ties();
        faces();
        oneBehindAnother();
        narrowest();
        widest();
        Checks.finish("EdgesOfLinesTest");
    }

    private static CountedRoom room(String style, String copy) {
        CountedRoom x = new CountedRoom();
        Checks.style(x, 0, style);
        Checks.story(x, 0, 0, copy);
        return x;
    }

    /** REACH of "ab cd", which is 16 and a GAP, ahead of a WORD that never stands; 0, if that does not stand either. */
    private static int reachOfPair(int measure, int least, int most) {
        CountedRoom x = new CountedRoom();
        x.width(0, 4, 20);
        Checks.style(x, 0, "measure " + measure + "; space " + least + " " + most);
        Checks.story(x, 0, 0, "ab cd eeee");
        return x.best(0, 2);
    }

    private static void standsByLeast() {
        for (int least = 1; least <= 40; least++) {
            same("Part 3: just MEASURE with LEAST " + least, 2, reachOfPair(16 + least, least, 40));
            same("Part 3: one above MEASURE with LEAST " + least, 0, reachOfPair(15 + least, least, 40));
        }
        CountedRoom x = room("measure 18; space 2 6", "ab cd ef gh");
        same("Part 3: WIDE and GAPS times LEAST are MEASURE", 2, x.best(0, 0));
        same("Part 3: no BADNESS then", 0, x.best(0, 1));
        CountedRoom y = room("measure 17; space 2 6", "ab cd ef gh");
        same("Part 3: one above MEASURE", NONE, y.best(0, 0));
        same("P10 best: it reaches nothing", 0, y.best(0, 2));
    }

    private static void standsByMost() {
        for (int most = 1; most <= 40; most++) {
            same("Part 3: just MEASURE with MOST " + most, 2, reachOfPair(16 + most, 1, most));
            same("Part 3: one below MEASURE with MOST " + most, 0, reachOfPair(17 + most, 1, most));
            same("Part 3: LEAST is MOST, just " + most, 2, reachOfPair(16 + most, most, most));
            same("Part 3: LEAST is MOST, one more than " + most, 0, reachOfPair(17 + most, most, most));
            same("Part 3: LEAST is MOST, one less than " + most, 0, reachOfPair(15 + most, most, most));
        }
        CountedRoom x = room("measure 22; space 2 6", "ab cd ef gh");
        same("Part 3: WIDE and GAPS times MOST are MEASURE", 2, x.best(0, 0));
        same("Part 3: that is 4 more than LEAST", 16, x.best(0, 1));
        same("Part 3: one below MEASURE", NONE, room("measure 23; space 2 6", "ab cd ef gh").best(0, 0));
    }

    private static void withoutGaps() {
        same("Part 3: no GAP, just MEASURE", 2, room("measure 20", "abcde fgh").best(0, 0));
        same("Part 3: no GAP, one below MEASURE", NONE, room("measure 21", "abcde fgh").best(0, 0));
        same("Part 3: no GAP, one above MEASURE", NONE, room("measure 19", "abcde fgh").best(0, 0));
        same("Part 3: no GAP, no BADNESS", 0, room("measure 20", "abcde fgh").best(0, 1));
    }

    private static void lastPiece() {
        same("Part 3: the last PIECE, just MEASURE", 1, room("measure 20", "abcde").best(0, 0));
        same("Part 3: the last PIECE, one above MEASURE", NONE, room("measure 19", "abcde").best(0, 0));
        same("Part 3: the last PIECE, far below MEASURE", 1, room("measure 400", "abcde").best(0, 0));
        same("Part 3: the last PIECE has no BADNESS", 0, room("measure 400", "abcde").best(0, 1));
        same("Part 3: a GAP with the last PIECE, just MEASURE", 1, room("measure 18; space 2 2", "ab cd").best(0, 0));
        same("Part 3: a GAP with the last PIECE, above", NONE, room("measure 17; space 2 2", "ab cd").best(0, 0));
        same("Part 3: a GAP with the last PIECE, below", 1, room("measure 400; space 2 2", "ab cd").best(0, 0));
        same("Part 3: the last PIECE of a PARTED WORD has no COST", 0,
            room("measure 12; part 0", "ab-c").best(0, 1));
    }

    private static void parted() {
        // abc- is 16 wide, and abcdef does not fit
        same("Part 3: the - is wide, just MEASURE", 2, room("measure 16", "abc-def").best(0, 0));
        same("Part 3: the - is wide, one above MEASURE", NONE, room("measure 15", "abc-def").best(0, 0));
        same("Part 3: the - is wide, one below MEASURE", NONE, room("measure 17", "abc-def").best(0, 0));
        CountedRoom x = room("measure 16; part 999", "abcd ef");
        same("Part 3: not PARTED behind a WORD", 0, x.best(0, 1));
        CountedRoom y = room("measure 16; part 999", "abc-d ef");
        same("Part 3: not PARTED behind the last BIT of a WORD", "1 2", Checks.ends(y, 0));
        same("Part 3: no COST then", 0, y.best(0, 1));
        CountedRoom z = room("measure 20; part 999", "abcd-ee f");
        same("Part 3: PARTED behind the first BIT of two", "0 2", Checks.ends(z, 0));
        same("Part 3: COST then", 999, z.best(0, 1));
    }

    /** abc- is 16, and d e- is 13 and a GAP: a LINE that begins and ends within WORDS. */
    private static CountedRoom withinWords(String space) {
        CountedRoom x = new CountedRoom();
        x.width(0, 3, 5);
        Checks.style(x, 0, "measure 16; part 0; space " + space);
        Checks.story(x, 0, 0, "abc-d e-fg");
        return x;
    }

    private static void gapsWithinWords() {
        same("Part 3: one GAP of 3", "0 2 3", Checks.ends(withinWords("3 3"), 0));
        same("Part 3: one GAP of 1 to 3", "0 2 3", Checks.ends(withinWords("1 3"), 0));
        same("Part 3: one GAP of 3 to 40", "0 2 3", Checks.ends(withinWords("3 40"), 0));
        same("Part 3: one GAP of 2 is too little", 1, withinWords("1 2").best(0, 2));
        same("Part 3: one GAP of 4 is too much", 1, withinWords("4 40").best(0, 2));
    }

    private static void gapsOfMost() {
        String most = Checks.many("a", 24, " ");
        CountedRoom x = new CountedRoom();
        x.width(0, 0, 1);
        Checks.story(x, 0, 0, most);
        Checks.style(x, 0, "measure 47; space 1 40");
        same("Part 3: 23 GAPS, just MEASURE", 1, x.best(0, 0));
        Checks.style(x, 0, "measure 46; space 1 40");
        same("Part 3: 23 GAPS, one above MEASURE", 2, x.best(0, 0));
        same("P12 hand: 23 WORDS and one", 2, x.hand(0, false));
        Checks.style(x, 0, "measure 400; space 17 40");
        same("Part 3: 23 GAPS of 17 are 391, and 24", 2, x.best(0, 0));
        Checks.style(x, 0, "measure 400; space 16 16");
        same("Part 3: 23 GAPS of 16 are 368, and 24", 1, x.best(0, 0));
    }

    /** ab cd has 17 at least, and eee is nearly as wide as MEASURE. */
    private static CountedRoom moreThanLeast(int more) {
        CountedRoom x = new CountedRoom();
        x.width(0, 4, (17 + more) / 3);
        Checks.style(x, 0, "measure " + (17 + more) + "; space 1 40");
        Checks.story(x, 0, 0, "ab cd eee");
        return x;
    }

    private static void badness() {
        for (int more = 0; more <= 39; more++) {
            CountedRoom x = moreThanLeast(more);
            same("Part 3: the square of " + more, more * more, x.best(0, 1));
            same("Part 3: the LINE is narrower by " + more, "1 2", Checks.ends(x, 0));
        }
        same("Part 3: narrower by 40 it does not stand", NONE, moreThanLeast(40).best(0, 1));
    }

    private static void costs() {
        for (int cost : new int[] {0, 1, 25, 999}) {
            CountedRoom x = room("measure 12; part " + cost, "ab-cd");
            same("Part 3: COST " + cost + " of a PARTED LINE", cost, x.best(0, 1));
            CountedRoom y = room("measure 12; part " + cost, "ab-cd-ef");
            same("Part 3: COST " + cost + " of two, and not of the last one", 2 * cost, y.best(0, 1));
            CountedRoom z = room("measure 12; part " + cost, "ab-cd-ef g");
            same("Part 3: COST " + cost + " of none without BEST", NONE, z.best(0, 1));
        }
        same("Part 3: COST is 25 without a RULE", 25, room("measure 12", "ab-cd").best(0, 1));
    }

    private static void reach() {
        same("P10 best: REACH 0 of one PIECE", 0, room("measure 11", "abc").best(0, 2));
        same("P10 best: REACH 1 of one PIECE", 1, room("measure 12", "abc").best(0, 2));
        same("P10 best: REACH 1 of two", 1, room("measure 12", "abc abcd").best(0, 2));
        same("P10 best: REACH 0 of two, though the second one would stand", 0, room("measure 12", "ab abc").best(0, 2));
        same("P10 best: REACH 2 of two", 2, room("measure 12", "abc abc").best(0, 2));
        CountedRoom x = room("measure 12", Checks.many("abc", 24, " "));
        same("P10 best: REACH all of 24", 24, x.best(0, 2));
        CountedRoom y = room("measure 12", Checks.many("abc", 23, " ") + " abcd");
        same("P10 best: REACH all but the last one", 23, y.best(0, 2));
        CountedRoom z = room("measure 12", Checks.many("ab", 39, "-") + "-abcd");
        same("P10 best: REACH 39 of 40", 39, z.best(0, 2));
    }

    private static void byHand() {
        same("P12 hand: just MEASURE", 1, room("measure 18; space 2 2", "ab cd").hand(0, false));
        same("P12 hand: one above MEASURE", 2, room("measure 17; space 2 2", "ab cd").hand(0, false));
        same("P12 hand: not even one", NONE, room("measure 19", "abcde").hand(0, false));
        same("P12 hand: just one", 1, room("measure 20", "abcde").hand(0, false));
        same("P12 hand: not even one in the second LINE", NONE, room("measure 19", "ab abcde").hand(0, false));
        same("P12 hand: no SLACK then either", NONE, room("measure 19", "ab abcde").hand(0, true));
        same("P12 hand: not even one in the last of many", NONE, room("measure 19", Checks.many("abc", 23, " ") + " abcde")
            .hand(0, false));
        same("P12 hand: MOST is not asked", 2, room("measure 20; space 1 1", "ab cd ef gh").hand(0, false));
    }

    private static void slack() {
        same("P12 hand: no SLACK", 0, room("measure 22; space 2 6", "ab cd ef gh").hand(0, true));
        same("P12 hand: SLACK of one, not of the last one", 1, room("measure 23; space 2 6", "ab cd ef gh").hand(0, true));
        CountedRoom x = room("measure 15; space 1 1", Checks.many("abc", 24, " "));
        same("P12 hand: 24 LINES", 24, x.hand(0, false));
        same("P12 hand: SLACK of all but the last one", 23, x.hand(0, true));
        CountedRoom y = room("measure 12; space 1 1", Checks.many("abc", 24, " "));
        same("P12 hand: no SLACK of 24", 0, y.hand(0, true));
        same("P12 hand: no SLACK of one LINE", 0, room("measure 400", "abc").hand(0, true));
    }

    private static void onePiece() {
        CountedRoom x = room("measure 10", "ab");
        int[] best = {1, 0, 1};
        for (int what = 0; what < 3; what++) {
            same("P10 best: one PIECE, what " + what, best[what], x.best(0, what));
        }
        same("P11 ends: LINE 0 of one PIECE", 0, x.ends(0, 0));
        same("P11 ends: LINE 1 of one PIECE", NONE, x.ends(0, 1));
        same("P12 hand: one PIECE", 1, x.hand(0, false));
    }

    /** 40 PIECES, each of which makes a LINE: aa- and at last aaa. */
    private static void fortyLines() {
        CountedRoom x = room("measure 12; part 0", Checks.many("aa", 39, "-") + "-aaa");
        same("P10 best: 40 LINES", 40, x.best(0, 0));
        same("P10 best: no BADNESS of 40", 0, x.best(0, 1));
        same("P10 best: REACH 40", 40, x.best(0, 2));
        same("P12 hand: 40 LINES", 40, x.hand(0, false));
        same("P12 hand: no SLACK of 40", 0, x.hand(0, true));
        for (int line = 0; line < 40; line++) {
            same("P11 ends: LINE " + line + " of 40", line, x.ends(0, line));
        }
        same("P11 ends: LINE 40 of 40", NONE, x.ends(0, 40));
        x.machine(40, 0);
        x.give(0, 0);
        x.minutes(1);
        for (int line = 0; line < 40; line++) {
            same("P11 ends: LINE " + line + " of 40, SET", line, x.ends(0, line));
        }
        same("P11 ends: LINE 40 of 40, SET", NONE, x.ends(0, 40));
        same("P8 part: 40 LINES", 40, x.part(0, 5));
        same("P21 lies: PLACE 39 of 40", NONE, x.lies(0, 39));
        refuses("P21 lies: PLACE 40 of 40", INDEX, () -> x.lies(0, 40));
        CountedRoom y = room("measure 12; part 999", Checks.many("aa", 39, "-") + "-aaa");
        same("P10 best: BADNESS of 39 times COST", 39 * 999, y.best(0, 1));
    }

    private static void ties() {
        // all is 10 wide: a- and b as bad as ab, by no COST
        CountedRoom x = new CountedRoom();
        for (int sign : new int[] {0, 1, 26}) {
            x.width(0, sign, 5);
        }
        Checks.style(x, 0, "measure 10; space 1 40; part 0");
        Checks.story(x, 0, 0, "a-b");
        Checks.story(x, 0, 0, "a-b a");
        Checks.story(x, 0, 0, "aa a-b a");
        Checks.story(x, 0, 0, "a-b a-b a");
        same("Part 3: as bad, the fewest LINES", "1", Checks.ends(x, 0));
        same("Part 3: as bad and as many, the longest first LINE", "1 2", Checks.ends(x, 5));
        same("Part 3: as bad and as many, the longest second LINE", "0 2 3", Checks.ends(x, 10));
        same("Part 3: as bad and as many, each as long as may be", "1 3 4", Checks.ends(x, 15));
        Checks.style(x, 0, "measure 10; space 1 40; part 1");
        same("Part 3: one bad by 1 is worse than a LINE more", "1 3 4", Checks.ends(x, 15));
    }

    private static void faces() {
        CountedRoom x = new CountedRoom();
        Checks.style(x, 0, "measure 20");
        Checks.story(x, 0, 0, "abcde");
        Checks.story(x, 1, 0, "abcde");
        x.width(1, 4, 5);
        same("Part 3: by the WIDTHS of FACE 0", 1, x.best(0, 0));
        same("Part 3: by the WIDTHS of FACE 1", NONE, x.best(5, 0));
        x.width(1, 4, 4);
        x.width(0, 0, 5);
        same("Part 3: by the WIDTHS of FACE 0 now", NONE, x.best(0, 0));
        same("Part 3: by the WIDTHS of FACE 1 now", 1, x.best(5, 0));
    }

    /** What is asked of one PART has nothing to do with what was asked of another one ahead of it. */
    private static void oneBehindAnother() {
        CountedRoom x = new CountedRoom();
        Checks.style(x, 0, "measure 20; space 2 6");
        Checks.story(x, 0, 0, Checks.many("ab", 24, " "));
        Checks.story(x, 1, 0, "ab cd");
        Checks.story(x, 0, 0, Checks.many("abcdef", 24, " "));
        Checks.story(x, 0, 0, "ab cd ef");
        int[] longest = {12, 11 * 4, 24};
        int[] two = {1, 0, 2};
        int[] none = {NONE, NONE, 0};
        int[] three = {2, 4, 3};
        for (int round = 0; round < 2; round++) {
            for (int what = 0; what < 3; what++) {
                same("P10 best: of 24 PIECES, what " + what, longest[what], x.best(0, what));
                same("P10 best: of two PIECES, what " + what, two[what], x.best(5, what));
                same("P10 best: of none behind them, what " + what, none[what], x.best(10, what));
                same("P10 best: of three PIECES, what " + what, three[what], x.best(15, what));
            }
            same("P12 hand: of 24 PIECES", 12, x.hand(0, false));
            same("P12 hand: of two PIECES", 1, x.hand(5, false));
            same("P11 ends: of three PIECES", "1 2", Checks.ends(x, 15));
        }
    }

    private static void narrowest() {
        CountedRoom x = new CountedRoom();
        x.width(0, 0, 1);
        Checks.style(x, 0, "measure 10; space 1 1");
        Checks.story(x, 0, 0, "aaaaaaaaaa a");
        Checks.story(x, 0, 0, "aaaaaaaaaaa");
        Checks.story(x, 0, 0, "a a a a a a");
        same("Part 3: MEASURE 10 and ten letters of 1", 2, x.best(0, 0));
        same("Part 3: MEASURE 10 and eleven letters of 1", NONE, x.best(5, 0));
        same("Part 3: MEASURE 10, five and five GAPS are 11", NONE, x.best(10, 0));
    }

    private static void widest() {
        CountedRoom x = new CountedRoom();
        x.width(0, 0, 20);
        x.width(0, 26, 20);
        Checks.style(x, 0, "measure 400; space 40 40; part 999");
        Checks.story(x, 0, 0, Checks.many("aaaaaaaaaaaa", 15, "-"));
        Checks.story(x, 0, 0, "aaaaaaaaaaaa-aaaaaaaa a");
        Checks.story(x, 0, 0, "aaaaaaaaaaaa-aaaaaaaaa");
        same("Part 3: 12 letters of 20 and a - are no 400", NONE, x.best(0, 0));
        same("P12 hand: 12 letters of 20 a LINE", 15, x.hand(0, false));
        same("P12 hand: SLACK of 14", 14, x.hand(0, true));
        same("Part 3: 20 letters of 20 are 400", 2, x.best(5, 0));
        same("Part 3: 20 letters of 20 in a LINE", "1 2", Checks.ends(x, 5));
        same("Part 3: 21 letters of 20 are more", NONE, x.best(10, 0));
    }
}
