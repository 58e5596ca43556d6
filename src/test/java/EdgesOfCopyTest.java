/**
 * Terms, part 1, and promises 1 to 5, 7 and 8: of each sentence that names an edge the last number or text that is
 * taken on each side, and the first one that is refused. What a refused call leaves as it was is in RefusalsOfCopyTest.
 */
public final class EdgesOfCopyTest extends Edges {
    private static final String TWELVE = "abcdefghijkl";

    public static void main(String[] args) {
        tapeOfNone();
        tapeOfMost();
        bytesAsTheyCome();
        widthOfEachSign();
        widthsAtTheEdges();
        storiesAndTheirNumbers();
        facesAndDues();
        parts();
        words();
        lettersOfABit();
        bits();
        blanks();
        hyphens();
        slashes();
        otherBytes();
        moreMustCome();
        faultOfTheLatest();
        partOfEach();
        Checks.finish("EdgesOfCopyTest");
    }

    private static void taken(String what, String text) {
        CountedRoom x = new CountedRoom();
        same(what + ", '" + text + "'", 0, Checks.story(x, 0, 0, text));
        same(what + ", fault of '" + text + "'", NONE, x.fault());
    }

    private static void wrong(String what, int fault, String text) {
        CountedRoom x = new CountedRoom();
        Checks.tell(x, text);
        refuses(what + ", '" + text + "'", ARGUMENT, () -> x.story(0, 0));
        same(what + ", fault of '" + text + "'", fault, x.fault());
        same(what + ", no STORY of '" + text + "'", 0, x.count(1));
    }

    private static void tapeOfNone() {
        CountedRoom x = new CountedRoom();
        same("P3 end: 0 of none", true, x.end(0));
        same("P2 feed: the first 20", 20, x.feed(0, 0, 0, 0, 0));
        same("P3 end: all 20", true, x.end(20));
        same("P3 end: 19 of 20", true, x.end(19));
        same("P3 end: 20 of 19", false, x.end(20));
        same("P2 feed: behind 19", 39, x.feed(0, 0, 0, 0, 0));
        same("P3 end: 1 of 39", true, x.end(1));
        same("P2 feed: behind 1", 21, x.feed(0, 0, 0, 0, 0));
        same("P3 end: none of 21", true, x.end(0));
        same("P2 feed: behind none", 20, x.feed(0, 0, 0, 0, 0));
    }

    private static void tapeOfMost() {
        for (int n = 379; n <= 400; n++) {
            CountedRoom x = new CountedRoom();
            Checks.tell(x, Scenes.textOf(n));
            same("P2 feed: behind " + n, n <= 380 ? n + 20 : NONE, x.feed(0x61616161, 0, 0, 0, 0));
            same("P3 end: what is there behind " + n, true, x.end(n <= 380 ? n + 20 : n));
            same("P3 end: one more than there is", false, x.end(n <= 380 ? n + 21 : n + 1));
        }
    }

    private static void bytesAsTheyCome() {
        CountedRoom x = new CountedRoom();
        // a b c d, then e f g h, and so on: each letter is 1 wide, but the one that is asked for
        x.feed(0x61626364, 0x65666768, 0x696a6b6c, 0x2d6d6e6f, 0x70717273);
        same("P2 feed: the highest byte first", 0, x.story(0, 0));
        same("P2 feed: one WORD", 1, x.part(0, 0));
        same("P2 feed: two BITS", 2, x.part(0, 1));
        Checks.style(x, 0, "measure 400; space 1 40");
        x.machine(9, 0);
        x.give(0, 0);
        x.minutes(1);
        same("P2 feed: all twenty in turn", "abcdefghijklmnopqrs", Checks.said(x, 0));
        // the byte 0x80 is 128, and 0xff is 255: none of them is a letter, nor are they below 0
        int[] numbers = {0x80616161, 0x61806161, 0x61618061, 0x61616180, -1, 0xff616161, 0x616161ff, Integer.MIN_VALUE};
        int[] faults = {0, 1, 2, 3, 0, 0, 3, 0};
        for (int i = 0; i < numbers.length; i++) {
            CountedRoom y = new CountedRoom();
            y.feed(numbers[i], 0x61616161, 0x20202020, 0x20202020, 0x20202020);
            refuses("P2 feed: a byte above 127, " + i, ARGUMENT, () -> y.story(0, 0));
            same("P7 fault: a byte above 127, " + i, faults[i], y.fault());
        }
    }

    /** How wide a letter is: five of them alone fit in 5 times that, and not in less. */
    private static boolean fits(CountedRoom x, int part, int measure) {
        Checks.style(x, 0, "measure " + measure);
        return x.best(part, 0) == 1;
    }

    private static void widthOfEachSign() {
        for (int face = 0; face < 2; face++) {
            for (int sign = 0; sign < 26; sign++) {
                String of = "P4 width: SIGN " + sign + " of FACE " + face;
                char letter = (char) ('a' + sign);
                String one = String.valueOf(letter);
                CountedRoom x = new CountedRoom();
                Checks.story(x, face, 0, one.repeat(5));
                Checks.story(x, face, 0, one.repeat(10));
                Checks.story(x, face, 0, one);
                Checks.story(x, 1 - face, 0, one.repeat(5));
                same(of + " is 4 at first", true, fits(x, 0, 20));
                same(of + " is not less at first", false, fits(x, 0, 19));
                x.width(face, sign, 1);
                same(of + " is 1", true, fits(x, 5, 10));
                x.width(face, sign, 20);
                same(of + " is 20", true, fits(x, 10, 20));
                same(of + " is not less than 20", false, fits(x, 10, 19));
                same(of + ", and 4 in the other FACE", true, fits(x, 15, 20));
                same(of + ", and 4 in the other FACE, not less", false, fits(x, 15, 19));
            }
        }
    }

    private static void widthsAtTheEdges() {
        for (int face = 0; face < 2; face++) {
            CountedRoom x = new CountedRoom();
            Checks.story(x, face, 0, "abc-dd");
            String of = "P4 width: the - of FACE " + face;
            same(of + " is 4 at first", 2, handOf(x, 16));
            same(of + " is not 3 at first", NONE, handOf(x, 15));
            x.width(face, 26, 3);
            same(of + " is 3", 2, handOf(x, 15));
            x.width(face, 26, 1);
            same(of + " is 1", 2, handOf(x, 13));
            same(of + " is not 0", NONE, handOf(x, 12));
            x.width(face, 3, 11);
            x.width(face, 26, 20);
            same(of + " is 20", 2, handOf(x, 32));
            same(of + " is not 19", NONE, handOf(x, 31));
        }
    }

    private static int handOf(CountedRoom x, int measure) {
        Checks.style(x, 0, "measure " + measure);
        return x.hand(0, false);
    }

    private static void storiesAndTheirNumbers() {
        CountedRoom x = new CountedRoom();
        same("P1 no STORY", 0, x.count(1));
        for (int i = 0; i < 20; i++) {
            same("P5 story: the number of one of 20", i, Checks.story(x, i % 2, 30 * i, "ab"));
            same("P5 story: so many there are", i + 1, x.count(1));
            same("P8 part: 5 times its number", 30 * i, x.part(5 * i, 3));
            int next = 5 * i + 5;
            refuses("P8 part: of the STORY behind the last one", INDEX, () -> x.part(next, 0));
        }
        Checks.tell(x, "ab");
        refuses("P5 story: a 21st", UNSUPPORTED, () -> x.story(0, 0));
        same("P5 story: 20 are there still", 20, x.count(1));
        same("P8 part: of the last STORY", 570, x.part(95, 3));
    }

    private static void facesAndDues() {
        for (int face = 0; face < 2; face++) {
            for (int due : new int[] {0, 1, 599, 600}) {
                CountedRoom x = new CountedRoom();
                same("P5 story: FACE " + face + " and DUE " + due, 0, Checks.story(x, face, due, "ab/cd"));
                for (int part = 0; part < 2; part++) {
                    same("P8 part: FACE " + face, face, x.part(part, 2));
                    same("P8 part: DUE " + due, due, x.part(part, 3));
                }
            }
        }
    }

    private static void parts() {
        for (int many = 1; many <= 5; many++) {
            CountedRoom x = new CountedRoom();
            Checks.story(x, 0, 0, Checks.many("ab", many, "/"));
            Checks.story(x, 0, 0, "cd ef");
            for (int place = 0; place < many; place++) {
                same("Terms: PART " + place + " of " + many, 1, x.part(place, 0));
            }
            for (int place = many; place < 5; place++) {
                int none = place;
                refuses("Terms: PART " + place + " of " + many, INDEX, () -> x.part(none, 0));
            }
            same("Terms: the first PART of the next STORY", 2, x.part(5, 0));
        }
        taken("Terms: a fifth PART", "a/b/c/d/e");
        wrong("Terms: a 6th PART", 9, "a/b/c/d/e/f");
        wrong("Terms: a 6th PART, behind a blank", 10, "a/b/c/d/e /f");
        wrong("Terms: a 6th PART that has nothing", 9, "a/b/c/d/e/");
    }

    private static void words() {
        String most = Checks.many("a", 24, " ");
        taken("Terms: one WORD", "a");
        taken("Terms: 24 WORDS", most);
        taken("Terms: 24 WORDS in each of five PARTS", Checks.many(most, 5, "/"));
        wrong("Terms: a 25th WORD", 48, most + " b");
        wrong("Terms: a 25th WORD in the second PART", 50, "a/" + most + " b");
        wrong("Terms: a 25th WORD behind many blanks", 52, most + "     bcd");
        wrong("Terms: a 25th WORD in the last PART", 8 + 48, "a/b/c/d/" + most + " b");
        taken("Terms: 24 WORDS of a BIT more", Checks.many("a", 23, " ") + " b-c");
        taken("Terms: 24 WORDS, a 25th begins another PART", most + " / b");
        CountedRoom x = new CountedRoom();
        Checks.story(x, 0, 0, most + "/a");
        same("P8 part: 24 WORDS", 24, x.part(0, 0));
        same("P8 part: one WORD", 1, x.part(1, 0));
        same("P8 part: one PIECE", 1, x.part(1, 1));
    }

    private static void lettersOfABit() {
        taken("Terms: one letter", "z");
        taken("Terms: 12 letters", TWELVE);
        wrong("Terms: a 13th letter", 12, TWELVE + "m");
        taken("Terms: 12 letters in each BIT", TWELVE + "-" + TWELVE);
        wrong("Terms: a 13th letter behind a -", 25, TWELVE + "-" + TWELVE + "m");
        wrong("Terms: a 13th letter ahead of a -", 12, TWELVE + "m-a");
        taken("Terms: 12 letters in each WORD", TWELVE + " " + TWELVE);
        wrong("Terms: a 13th letter in the second WORD", 25, TWELVE + " " + TWELVE + "mn");
        taken("Terms: 12 letters in each PART", TWELVE + "/" + TWELVE);
        wrong("Terms: a 13th letter in the second PART", 25, TWELVE + "/" + TWELVE + "m");
    }

    private static void bits() {
        String most = Checks.many("a", 40, "-");
        taken("Terms: 40 BITS in a WORD", most);
        wrong("Terms: a 41st BIT in a WORD", 80, most + "-bc");
        wrong("Terms: a 41st BIT in another WORD", 80, most + " bc");
        taken("Terms: 40 BITS in each PART", most + "/" + most);
        wrong("Terms: a 41st BIT in the second PART", 82, "a/" + most + "-b");
        String words = Checks.many("a-b", 20, " ");
        taken("Terms: 40 BITS in 20 WORDS", words);
        wrong("Terms: a 41st BIT in a 21st WORD", 80, words + " c");
        wrong("Terms: a 41st BIT in the 20th WORD", 80, words + "-c");
        wrong("Terms: the 25th WORD comes ahead of a 41st BIT", 48, Checks.many("a", 24, " ") + " " + most);
        CountedRoom x = new CountedRoom();
        Checks.story(x, 0, 0, most);
        same("P8 part: 40 PIECES", 40, x.part(0, 1));
        same("P8 part: of one WORD", 1, x.part(0, 0));
    }

    private static void blanks() {
        taken("Terms: one blank between two WORDS", "a b");
        taken("Terms: more blanks between two WORDS", "a" + " ".repeat(300) + "b");
        taken("Terms: a blank ahead", " a");
        taken("Terms: more blanks ahead", " ".repeat(399) + "a");
        taken("Terms: a blank behind", "a ");
        taken("Terms: more blanks behind", "a" + " ".repeat(399));
        taken("Terms: a blank ahead of a /", "a /b");
        taken("Terms: a blank behind a /", "a/ b");
        taken("Terms: no blank beside a /", "a/b");
        taken("Terms: more blanks beside a /", "a   /   b");
        wrong("Terms: a blank behind a -", 2, "a- b");
        wrong("Terms: a blank ahead of a -", 2, "a -b");
        wrong("Terms: a blank behind a - at the end", 2, "a- ");
    }

    private static void hyphens() {
        taken("Terms: a - right behind a letter", "a-b");
        wrong("Terms: a - ahead of all", 0, "-a");
        wrong("Terms: a - behind a blank ahead", 1, " -a");
        wrong("Terms: a - behind a -", 2, "a--b");
        wrong("Terms: a - behind a /", 2, "a/-b");
        wrong("Terms: a - behind a / and a blank", 3, "a/ -b");
        wrong("Terms: a - behind the blank of a second PART's WORD", 4, "a/b -c");
        wrong("Terms: a / behind a -", 2, "a-/b");
        wrong("Terms: a / behind a - of a second WORD", 4, "a b-/c");
        wrong("Terms: a digit behind a -", 2, "a-1");
        wrong("Terms: the end behind a -", 2, "a-");
        wrong("Terms: the end behind a second -", 4, "a-b-");
    }

    private static void slashes() {
        wrong("Terms: a / with no WORD ahead", 0, "/a");
        wrong("Terms: a / with blanks alone ahead", 2, "  /a");
        wrong("Terms: a / right behind a /", 2, "a//b");
        wrong("Terms: a / behind a / and blanks", 4, "a/  /b");
        wrong("Terms: a / behind the third /", 6, "a/b/c//d");
        taken("Terms: a / with one WORD ahead", "a/b");
    }

    private static void otherBytes() {
        for (int c = 0; c < 256; c++) {
            boolean isLetter = c >= 'a' && c <= 'z';
            boolean isRight = isLetter || c == ' ' || c == '-' || c == '/';
            String text = "ab" + (char) c + "cd";
            if (isRight) {
                taken("Terms: byte " + c, text);
            } else {
                wrong("Terms: byte " + c, 2, text);
                wrong("Terms: byte " + c + " ahead", 0, (char) c + "ab");
                wrong("Terms: byte " + c + " behind", 2, "ab" + (char) c);
            }
        }
    }

    private static void moreMustCome() {
        wrong("Terms: more must come than nothing", 0, "");
        wrong("Terms: more must come than a blank", 1, " ");
        wrong("Terms: more must come than 400 blanks", 400, " ".repeat(400));
        wrong("Terms: more must come behind a /", 2, "a/");
        wrong("Terms: more must come behind a / and a blank", 3, "a/ ");
        wrong("Terms: more must come behind a fourth /", 8, "a/b/c/d/");
        wrong("Terms: more must come behind a - and 399 bytes", 400, "a" + " ".repeat(397) + "b-");
        taken("Terms: nothing more must come behind 400 bytes", "a" + " ".repeat(398) + "b");
    }

    private static void faultOfTheLatest() {
        CountedRoom x = new CountedRoom();
        same("P7 fault: ahead of any text", NONE, x.fault());
        Checks.tell(x, "a?");
        refuses("P7 fault: a wrong STORY", ARGUMENT, () -> x.story(0, 0));
        same("P7 fault: of the STORY", 1, x.fault());
        Checks.style(x, 0, "fat 1");
        same("P7 fault: of a right STYLE behind it", NONE, x.fault());
        Checks.tell(x, "fat");
        refuses("P7 fault: a wrong STYLE", ARGUMENT, () -> x.style(0));
        same("P7 fault: of the STYLE", 3, x.fault());
        x.image();
        x.back();
        x.minutes(1);
        same("P7 fault: of the STYLE still", 3, x.fault());
        Checks.story(x, 0, 0, "ab");
        same("P7 fault: of a right STORY behind it", NONE, x.fault());
        x.machine(9, 0);
        Checks.tell(x, "abcde/");
        refuses("P7 fault: a wrong CORRECTION", ARGUMENT, () -> x.correct(0, 0, 0));
        same("P7 fault: of the CORRECTION", 5, x.fault());
        Checks.correct(x, 0, 0, 0, "cd");
        same("P7 fault: of a right CORRECTION behind it", NONE, x.fault());
    }

    private static void partOfEach() {
        CountedRoom x = new CountedRoom();
        Checks.style(x, 0, Scenes.PAIRS);
        Checks.story(x, 0, 0, "ab cd ef gh ij");
        x.machine(9, 0);
        int[] fresh = {5, 5, 0, 0, 0, NONE, 0, 0};
        int[] given = {5, 5, 0, 0, 1, NONE, 0, 0};
        int[] begun = {5, 5, 0, 0, 1, 3, 1, 0};
        int[] all = {5, 5, 0, 0, 1, 3, 3, 0};
        int[] gone = {5, 5, 0, 0, 1, 3, 0, 3};
        told("P8 part: of a new PART", fresh, x);
        x.give(0, 0);
        told("P8 part: of a GIVEN one", given, x);
        x.minutes(1);
        told("P8 part: of one that is SET", begun, x);
        x.minutes(2);
        told("P8 part: of one that is cast", all, x);
        x.pie(0);
        x.pie(1);
        x.pie(2);
        told("P8 part: of one whose SLUGS are PIED", gone, x);
    }

    private static void told(String what, int[] due, CountedRoom x) {
        for (int i = 0; i < due.length; i++) {
            same(what + ", what " + i, due[i], x.part(0, i));
        }
    }
}
