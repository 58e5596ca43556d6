/** Promises 1 to 5, 7 and 8: a new room, the TAPE, WIDTHS, STORIES and their PARTS. */
public final class CopyTest extends Checked {
    public static void main(String[] args) {
        newRoom();
        feed();
        end();
        width();
        story();
        storyRefuses();
        wrongBytes();
        limitsOfCopy();
        tapeIsUsedUp();
        cutTexts();
        mostLetters();
        part();
        Checks.finish("CopyTest");
    }

    private static void newRoom() {
        CountedRoom x = new CountedRoom();
        int[] counts = {0, 0, 0, 0, 0, 0, 0, 0, 0, 0, 0, 0, 0, 0, 0};
        for (int i = 0; i < counts.length; i++) {
            same("P1 count(" + i + ")", counts[i], x.count(i));
        }
        same("P1 NONE", -1, LeadRoom.NONE);
        same("P1 fault", NONE, x.fault());
        for (int page = 0; page < 6; page++) {
            same("P1 slugs of a page", 0, x.locked(page, 0));
            same("P1 locked minute", NONE, x.locked(page, 1));
            same("P1 late", 0, x.locked(page, 2));
            same("P1 columns", 1, x.locked(page, 3));
            same("P1 long", 20, x.locked(page, 4));
        }
        refuses("P1 no part", INDEX, () -> x.part(0, 0));
        refuses("P1 no machine", INDEX, () -> x.runs(0, 0));
        refuses("P1 no slug", INDEX, () -> x.slug(0, 0));
        refuses("P1 no row", NO_ELEMENT, () -> x.row(0, 0));
    }

    private static void feed() {
        CountedRoom x = new CountedRoom();
        for (int i = 1; i <= 20; i++) {
            same("P2 feed", 20 * i, x.feed(0, 0, 0, 0, 0));
        }
        same("P2 a 401st byte", NONE, x.feed(0, 0, 0, 0, 0));
        same("P2 still 400", true, x.end(400));
        same("P2 back to 381", true, x.end(381));
        same("P2 401 again", NONE, x.feed(0, 0, 0, 0, 0));
        x.end(380);
        same("P2 just 400", 400, x.feed(0, 0, 0, 0, 0));
        CountedRoom y = new CountedRoom();
        // "abcd efg-hij / kl mn" with the highest byte of each number first
        y.feed(0x61626364, 0x20656667, 0x2d68696a, 0x202f206b, 0x6c206d6e);
        same("P2 a story of it", 0, y.story(0, 0));
        same("P2 words", 2, y.part(0, 0));
        same("P2 pieces", 3, y.part(0, 1));
        same("P2 words of the second part", 2, y.part(1, 0));
        y.feed(0x61616161, 0x61616161, 0x80ffffff, 0, 0);
        refuses("P2 a byte above 127", ARGUMENT, () -> y.story(0, 0));
        same("P2 is at 8", 8, y.fault());
    }

    private static void end() {
        CountedRoom x = new CountedRoom();
        same("P3 end(0)", true, x.end(0));
        same("P3 end(1) of none", false, x.end(1));
        same("P3 end(-1)", false, x.end(-1));
        x.feed(0x61626364, 0x65666768, 0x696a2020, 0, 0);
        same("P3 end(21)", false, x.end(21));
        same("P3 end(MIN)", false, x.end(Integer.MIN_VALUE));
        same("P3 end(MAX)", false, x.end(Integer.MAX_VALUE));
        same("P3 end(10)", true, x.end(10));
        same("P3 end(11) then", false, x.end(11));
        same("P3 feeds go on behind", 30, x.feed(0x2d6b6c20, 0x20202020, 0x20202020, 0x20202020, 0x20202020));
        same("P3 a story of 30 bytes", 0, x.story(0, 0));
        same("P3 two pieces", 2, x.part(0, 1));
        same("P3 the tape is empty", false, x.end(1));
    }

    private static void width() {
        CountedRoom x = new CountedRoom();
        Checks.story(x, 0, 0, "ab ab ab ab");
        Checks.story(x, 1, 0, "ab ab ab ab");
        Checks.style(x, 0, "measure 36; space 1 40");
        same("P4 four wide at first", 1, x.hand(0, false));
        x.width(0, 0, 5);
        same("P4 wider in face 0", 2, x.hand(0, false));
        same("P4 not in face 1", 1, x.hand(5, false));
        x.width(1, 1, 20);
        same("P4 wider in face 1", 4, x.hand(5, false));
        x.width(1, 1, 1);
        x.width(1, 0, 1);
        same("P4 narrow", 1, x.hand(5, false));
        x.width(0, 26, 20);
        refuses("P4 face 2", INDEX, () -> x.width(2, 0, 4));
        refuses("P4 face -1", INDEX, () -> x.width(-1, 0, 4));
        refuses("P4 sign 27", INDEX, () -> x.width(0, 27, 4));
        refuses("P4 sign -1", INDEX, () -> x.width(0, -1, 4));
        refuses("P4 a sign ahead of a width", INDEX, () -> x.width(0, 27, 0));
        refuses("P4 width 0", ARGUMENT, () -> x.width(0, 0, 0));
        refuses("P4 width 21", ARGUMENT, () -> x.width(0, 0, 21));
        CountedRoom y = new CountedRoom();
        Checks.story(y, 0, 0, "ab-cd ef");
        Checks.style(y, 0, "measure 13; space 1 40");
        same("P4 the hyphen is 4 wide", 3, y.hand(0, false));
        y.width(0, 26, 6);
        // ab- is 14 wide then, and abcd is 16
        same("P4 the hyphen is 6 wide", NONE, y.hand(0, false));
    }

    private static void story() {
        CountedRoom x = new CountedRoom();
        same("P5 the first one", 0, Checks.story(x, 0, 0, "a"));
        same("P5 the second one", 1, Checks.story(x, 1, 600, "  a-b   c/d / e  /f/g  "));
        same("P5 count", 2, x.count(1));
        same("P5 parts", 5, partsOf(x, 1));
        same("P5 parts of the first", 1, partsOf(x, 0));
        for (int i = 2; i < 20; i++) {
            same("P5 number", i, Checks.story(x, 0, 5, "ab"));
        }
        Checks.tell(x, "ab");
        refuses("P5 a 21st", UNSUPPORTED, () -> x.story(0, 5));
        same("P5 its text was read and right", NONE, x.fault());
        Checks.tell(x, "ab?");
        refuses("P5 a wrong 21st", ARGUMENT, () -> x.story(0, 5));
        same("P5 its fault", 2, x.fault());
        same("P5 still 20", 20, x.count(1));
        same("P5 part 95", 1, x.part(95, 0));
        refuses("P5 part 100", INDEX, () -> x.part(100, 0));
        refuses("P5 part 96", INDEX, () -> x.part(96, 0));
    }

    private static int partsOf(CountedRoom x, int story) {
        int parts = 0;
        for (int i = 0; i < 5; i++) {
            try {
                x.part(5 * story + i, 0);
                parts++;
            } catch (IndexOutOfBoundsException e) {
                return parts;
            }
        }
        return parts;
    }

    private static void storyRefuses() {
        CountedRoom x = new CountedRoom();
        Checks.tell(x, "?");
        refuses("P5 face 2, ahead of all", INDEX, () -> x.story(2, 601));
        same("P7 no text was read", NONE, x.fault());
        Checks.tell(x, "?");
        refuses("P5 face -1", INDEX, () -> x.story(-1, 0));
        Checks.tell(x, "?");
        refuses("P5 due 601", ARGUMENT, () -> x.story(0, 601));
        same("P7 no text was read there either", NONE, x.fault());
        Checks.tell(x, "ab");
        refuses("P5 due -1", ARGUMENT, () -> x.story(0, -1));
        refuses("P5 the tape is used up", ARGUMENT, () -> x.story(0, 0));
        same("P7 an empty text", 0, x.fault());
        same("P5 no story", 0, x.count(1));
        same("P5 a right one", 0, Checks.story(x, 0, 1, "ab"));
        same("P7 none", NONE, x.fault());
    }

    private static void wrongBytes() {
        String[] texts = {"", "   ", "ab-", "ab- ", "ab-/cd", "-ab", "ab -cd", "ab--cd", "/ab", "ab//cd", "ab/ /cd",
            "ab/", "ab/ ", "ab/c/d/e/f/g", "ab/c/d/e/f/", "Ab", "a1", "ab\n", "a,b", "ab -", "ab/-c", "a-b-", "a-b-?",
            "abcdefghijklm", "abcdefghijkl", "a abcdefghijkl-abcdefghijklm", "ab-cd-ef gh", "a/b/c/d/e", "z  z"};
        int[] faults = {0, 3, 3, 3, 3, 0, 3, 3, 0, 3, 4,
            3, 4, 10, 10, 0, 1, 2, 1, 3, 3, 4, 4,
            12, NONE, 27, NONE, NONE, NONE};
        for (int i = 0; i < texts.length; i++) {
            CountedRoom x = new CountedRoom();
            Checks.tell(x, texts[i]);
            if (faults[i] == NONE) {
                same("P5 story of '" + texts[i] + "'", 0, x.story(0, 0));
            } else {
                refuses("P5 story of '" + texts[i] + "'", ARGUMENT, () -> x.story(0, 0));
                same("P1 no story", 0, x.count(1));
            }
            same("P7 fault of '" + texts[i] + "'", faults[i], x.fault());
        }
    }

    private static void limitsOfCopy() {
        CountedRoom x = new CountedRoom();
        same("P5 24 words", 0, Checks.story(x, 0, 0, Checks.many("ab", 24, " ")));
        same("P8 24 words", 24, x.part(0, 0));
        Checks.tell(x, Checks.many("ab", 25, " "));
        refuses("P5 25 words", ARGUMENT, () -> x.story(0, 0));
        same("P7 the first letter of the 25th", 72, x.fault());
        Checks.tell(x, Checks.many("ab", 24, " ") + "/" + Checks.many("ab", 24, " "));
        same("P5 24 words twice", 1, x.story(0, 0));
        same("P5 40 bits", 2, Checks.story(x, 0, 0, Checks.many("ab", 40, "-")));
        same("P8 40 pieces", 40, x.part(10, 1));
        same("P8 in one word", 1, x.part(10, 0));
        Checks.tell(x, Checks.many("ab", 41, "-"));
        refuses("P5 41 bits", ARGUMENT, () -> x.story(0, 0));
        same("P7 the first letter of the 41st", 120, x.fault());
        Checks.tell(x, "a/" + Checks.many("a-b", 20, " ") + " c");
        refuses("P5 41 bits in a second part", ARGUMENT, () -> x.story(0, 0));
        same("P7 its first letter", 82, x.fault());
        Checks.tell(x, Checks.many("a", 40, "-") + "/" + Checks.many("a", 40, "-"));
        same("P5 40 bits twice", 3, x.story(0, 0));
        String long30 = Checks.many("abcdefghijkl", 30, "-");
        same("P5 the tape holds 389", 389, long30.length());
        same("P5 30 bits of 12", 4, Checks.story(x, 0, 0, long30));
        same("P8 30 pieces", 30, x.part(20, 1));
        Checks.tell(x, long30 + Checks.many(" ", 10, "") + "/");
        refuses("P5 400 bytes, and more must come", ARGUMENT, () -> x.story(0, 0));
        same("P7 the text's length", 400, x.fault());
        same("P5 400 bytes", 5, Checks.story(x, 0, 0, long30 + Checks.many(" ", 9, "") + "/a"));
        Checks.tell(x, long30 + Checks.many(" ", 10, "") + "?");
        refuses("P5 the last of 400 bytes", ARGUMENT, () -> x.story(0, 0));
        same("P7 that one", 399, x.fault());
    }

    /** What was on the TAPE behind the text is not read. */
    private static void cutTexts() {
        String[] texts = {"ab", "ab cd", "ab/cd", "ab-c", "ab ", "abcdefghijkl", Checks.many("a", 40, "-")};
        for (String text : texts) {
            for (char behind : "a-/ ?".toCharArray()) {
                CountedRoom x = new CountedRoom();
                Checks.tell(x, text.getBytes(java.nio.charset.StandardCharsets.ISO_8859_1), behind);
                same("P3 '" + text + "' cut ahead of " + behind, 0, x.story(0, 0));
                same("P5 a story", 1, x.count(1));
            }
        }
        CountedRoom x = new CountedRoom();
        Checks.tell(x, "ab-".getBytes(java.nio.charset.StandardCharsets.ISO_8859_1), 'c');
        refuses("P3 a letter that was cut off", ARGUMENT, () -> x.story(0, 0));
        same("P7 the text's length", 3, x.fault());
    }

    /** More letters than a TAPE holds: by corrections of copy that is not SET. */
    private static void mostLetters() {
        CountedRoom x = new CountedRoom();
        x.machine(1, 0);
        Checks.story(x, 0, 0, Checks.many("a", 20, " "));
        for (int word = 0; word < 20; word++) {
            same("P26 a longer word", 0, Checks.correct(x, 0, word, 0, "abcdefghijkl-mnopqrstuvwx"));
        }
        same("P8 40 pieces of 12", 40, x.part(0, 1));
        same("P8 20 words", 20, x.part(0, 0));
        Checks.style(x, 0, "measure 120; space 8 40");
        for (int sign = 0; sign < 27; sign++) {
            x.width(0, sign, 1);
        }
        // three words of 24 and two gaps of 8 are 88, four are 120
        same("P10 five lines of four", 5, x.best(0, 0));
        same("P10 no badness", 0, x.best(0, 1));
        same("P11 the last one", 39, x.ends(0, 4));
        x.width(0, 23, 2);
        same("P4 the last letter is wider", 6, x.hand(0, false));
    }

    private static void tapeIsUsedUp() {
        CountedRoom x = new CountedRoom();
        Checks.story(x, 0, 0, "ab cd");
        same("P5 used up by a story", false, x.end(1));
        Checks.tell(x, "ab?");
        refuses("P5 a wrong one", ARGUMENT, () -> x.story(0, 0));
        same("P5 used up by a wrong story", false, x.end(1));
        Checks.tell(x, "ab");
        refuses("P5 a face that is none", INDEX, () -> x.story(7, 0));
        same("P5 used up by that, too", false, x.end(1));
        Checks.tell(x, "ab");
        x.fault();
        x.count(0);
        same("P7 fault leaves the tape", true, x.end(2));
    }

    private static void part() {
        CountedRoom x = new CountedRoom();
        Checks.story(x, 1, 77, "ab-cd ef / gh");
        Checks.story(x, 0, 600, "ab");
        int[] first = {2, 3, 1, 77, 0, NONE, 0, 0};
        int[] second = {1, 1, 1, 77, 0, NONE, 0, 0};
        for (int what = 0; what < 8; what++) {
            same("P8 part(0, " + what + ")", first[what], x.part(0, what));
            same("P8 part(1, " + what + ")", second[what], x.part(1, what));
        }
        same("P8 due of part 5", 600, x.part(5, 3));
        same("P8 face of part 5", 0, x.part(5, 2));
        refuses("P8 part 2", INDEX, () -> x.part(2, 0));
        refuses("P8 part 4", INDEX, () -> x.part(4, 0));
        refuses("P8 part 6", INDEX, () -> x.part(6, 0));
        refuses("P8 part 10", INDEX, () -> x.part(10, 0));
        refuses("P8 part -1", INDEX, () -> x.part(-1, 0));
        refuses("P8 part MAX", INDEX, () -> x.part(Integer.MAX_VALUE, 0));
        refuses("P8 part MIN", INDEX, () -> x.part(Integer.MIN_VALUE, 99));
        refuses("P8 what 8", NO_ELEMENT, () -> x.part(0, 8));
        refuses("P8 what -1", NO_ELEMENT, () -> x.part(0, -1));
        refuses("P8 a part ahead of a what", INDEX, () -> x.part(2, 8));
    }
}
