/**
 * Part 2, and promises 6, 7 and 9: of each sentence that names an edge the last number or text that is taken on each
 * side, and the first one that is refused. What a refused call leaves as it was is in RefusalsOfCopyTest.
 */
public final class EdgesOfStylesTest extends Edges {
    public static void main(String[] args) {
        tenStyles();
        fromItsMinuteOn();
        ofSeveralTheLast();
        stylesOfNow();
        rulesOfAText();
        numbers();
        digits();
        bounds();
        depth();
        depthBesideOneAnother();
        wordsGoOn();
        blanks();
        nothingThere();
        moreMustCome();
        otherBytes();
        tags();
        facts();
        factsOfAPart();
        wordsAndBitsNow();
        conditionsOfMost();
        lastThatHolds();
        usual();
        Checks.finish("EdgesOfStylesTest");
    }

    private static void taken(String what, int rules, String text) {
        CountedRoom x = new CountedRoom();
        same(what + ", '" + text + "'", rules, Checks.style(x, 0, text));
        same(what + ", fault of '" + text + "'", NONE, x.fault());
        same(what + ", RULES of NOW of '" + text + "'", rules, x.count(2));
    }

    private static void wrong(String what, int fault, String text) {
        CountedRoom x = new CountedRoom();
        Checks.tell(x, text);
        refuses(what + ", '" + text + "'", ARGUMENT, () -> x.style(0));
        same(what + ", fault of '" + text + "'", fault, x.fault());
        same(what + ", no STYLE of '" + text + "'", 0, x.count(13));
    }

    /** The text with a ? where it is wrong. */
    private static void wrongAt(String what, String text) {
        wrong(what, text.indexOf('?'), text.replace("?", ""));
    }

    private static void tenStyles() {
        CountedRoom x = new CountedRoom();
        same("P1 no STYLE", 0, x.count(13));
        for (int i = 1; i <= 10; i++) {
            same("P6 style: one of ten", 1, Checks.style(x, 0, "fat " + i));
            same("Part 2: so many STYLES", i, x.count(13));
        }
        Checks.tell(x, "fat 11");
        refuses("Part 2: an 11th STYLE", UNSUPPORTED, () -> x.style(0));
        same("Part 2: ten STYLES still", 10, x.count(13));
        Checks.story(x, 0, 0, "ab");
        same("Part 2: the 10th one is in force", 10, x.rule(0, 0, 4));
    }

    private static void fromItsMinuteOn() {
        int[] froms = {0, 1, 299, 600};
        for (int from : froms) {
            CountedRoom x = new CountedRoom();
            Checks.story(x, 0, 0, "ab");
            Checks.style(x, from, "fat 9");
            String of = "Part 2: from " + from + " on, ";
            if (from > 0) {
                same(of + "a minute ahead", 0, x.rule(0, from - 1, 4));
                same(of + "at minute 0", 0, x.rule(0, 0, 4));
            }
            same(of + "at that minute", 9, x.rule(0, from, 4));
            same(of + "a minute behind", 9, x.rule(0, Math.min(600, from + 1), 4));
            same(of + "at minute 600", 9, x.rule(0, 600, 4));
        }
    }

    private static void ofSeveralTheLast() {
        CountedRoom x = new CountedRoom();
        Checks.story(x, 0, 0, "ab");
        Checks.style(x, 20, "fat 1");
        Checks.style(x, 10, "fat 2");
        Checks.style(x, 10, "fat 3");
        Checks.style(x, 20, "fat 4");
        Checks.style(x, 10, "fat 5");
        int[] minutes = {9, 10, 11, 19, 20, 21};
        int[] fats = {0, 5, 5, 5, 4, 4};
        for (int i = 0; i < minutes.length; i++) {
            same("Part 2: the latest minute, of several the last one, at " + minutes[i], fats[i],
                x.rule(0, minutes[i], 4));
        }
        Checks.style(x, 20, "");
        same("Part 2: the last one has no RULES", 0, x.rule(0, 20, 4));
        same("Part 2: that of the minute ahead has", 5, x.rule(0, 19, 4));
    }

    private static void stylesOfNow() {
        CountedRoom x = new CountedRoom();
        same("P48 count: no RULES ahead of any STYLE", 0, x.count(2));
        Checks.style(x, 3, "fat 1; fat 2; fat 3");
        x.minutes(2);
        same("P48 count: no RULES at minute 2", 0, x.count(2));
        x.minutes(1);
        same("P48 count: three RULES at minute 3", 3, x.count(2));
        same("P6 style: from NOW on", 1, Checks.style(x, 3, "fat 4"));
        same("P48 count: one RULE at minute 3 now", 1, x.count(2));
        Checks.tell(x, "fat 5");
        refuses("P6 style: from a minute ahead of NOW on", ARGUMENT, () -> x.style(2));
        for (int i = 0; i < 5; i++) {
            x.minutes(120);
        }
        same("P6 style: from 600 on at 600", 2, Checks.style(x, 600, "fat 5; fat 6"));
        same("P48 count: two RULES at minute 600", 2, x.count(2));
    }

    private static void rulesOfAText() {
        String twelve = Checks.many("fat 1", 12, "; ");
        taken("Part 2: one RULE", 1, "fat 1");
        taken("Part 2: 12 RULES", 12, twelve);
        wrongAt("Part 2: a 13th RULE", twelve + "; ?fat 1");
        wrongAt("Part 2: a 13th RULE right behind the ;", twelve + ";?fat 1");
        wrongAt("Part 2: a 13th RULE must come", twelve + "; ?");
        wrongAt("Part 2: a 13th RULE that is wrong", twelve + "; ?x");
        wrongAt("Part 2: a RULE ahead of the 13th that is wrong", Checks.many("fat 1", 11, ";") + "; fat ?x; fat 1");
        String kinds = "measure 10; measure 11 if head; space 1 2; part 3; fat 4; pay 5; pay 6 if late; free if head; "
            + "close 0 at 1; close 5 at 600; free if late; measure 12";
        taken("Part 2: 12 RULES of all kinds", 12, kinds);
        wrongAt("Part 2: a 13th RULE behind those", kinds + "; ?close 1 at 1");
        wrongAt("Part 2: two RULES with no ;", "fat 1 ?fat 2");
        wrongAt("Part 2: two ;", "fat 1;?; fat 2");
        wrongAt("Part 2: a ; ahead of all", "?; fat 1");
    }

    private static void numbers() {
        String[] heads = {"measure ", "space ", "space 7 ", "part ", "fat ", "pay ", "close ", "close 5 at "};
        String[] tails = {"", " 40", "", "", "", "", " at 0", ""};
        int[] least = {10, 1, 7, 0, 0, 0, 0, 0};
        int[] most = {400, 40, 40, 999, 99, 999, 5, 600};
        for (int i = 0; i < heads.length; i++) {
            String of = "Part 2: the NUMBER of '" + heads[i] + "', ";
            taken(of + "the least", 1, heads[i] + least[i] + tails[i]);
            taken(of + "the most", 1, heads[i] + most[i] + tails[i]);
            wrongAt(of + "one more than the most", heads[i] + "?" + (most[i] + 1) + tails[i]);
            wrongAt(of + "9999", heads[i] + "?9999" + tails[i]);
            if (least[i] > 0) {
                wrongAt(of + "one less than the least", heads[i] + "?" + (least[i] - 1) + tails[i]);
                wrongAt(of + "0", heads[i] + "?0" + tails[i]);
            }
            wrongAt(of + "below 0", heads[i] + "?-1" + tails[i]);
            wrongAt(of + "none", heads[i] + "?x" + tails[i]);
            wrongAt(of + "a ;", heads[i] + "?; fat 1");
        }
        taken("Part 2: space from 1 to 1", 1, "space 1 1");
        taken("Part 2: space from 40 to 40", 1, "space 40 40");
        wrongAt("Part 2: space from 40 to 39", "space 40 ?39");
        wrongAt("Part 2: space from 2 to 1", "space 2 ?1");
        wrongAt("Part 2: space from 41", "space ?41 41");
    }

    private static void digits() {
        String[] heads = {"measure ", "part ", "fat ", "pay ", "space ", "close "};
        String[] rights = {"0010", "0000", "0099", "0999", "0001 0040", "0005 at 0600"};
        String[] wrongs = {"?00010", "?00000", "?00099", "?00999", "0001 ?00040", "0005 at ?00600"};
        for (int i = 0; i < heads.length; i++) {
            taken("Part 2: 4 digits", 1, heads[i] + rights[i]);
            wrongAt("Part 2: 5 digits", heads[i] + wrongs[i]);
        }
        wrongAt("Part 2: 5 digits of the first one of space", "space ?00001 40");
        wrongAt("Part 2: 5 digits of the PAGE", "close ?00005 at 600");
        wrongAt("Part 2: 300 digits", "fat ?" + "1".repeat(300));
        wrongAt("Part 2: 2 to the 32nd and 50", "fat ?4294967346");
        wrongAt("Part 2: a sign ahead of digits", "fat ?+5");
        wrongAt("Part 2: a point behind digits", "fat 5?.0");
        wrongAt("Part 2: digits apart are two NUMBERS", "fat 5 ?5");
        wrongAt("Part 2: the byte behind 9", "fat 5?:");
        wrongAt("Part 2: the byte ahead of 0", "fat 5?/");
    }

    /** What a NUMBER of the least and of the most bounds is, when it is asked for. */
    private static void bounds() {
        String[] texts = {"measure 10", "measure 400", "space 1 1", "space 40 40", "space 1 40", "part 0", "part 999",
            "fat 0", "fat 99", "measure 0010", "fat 0007"};
        int[][] due = {{10, 2, 6, 25, 0}, {400, 2, 6, 25, 0}, {60, 1, 1, 25, 0}, {60, 40, 40, 25, 0},
            {60, 1, 40, 25, 0}, {60, 2, 6, 0, 0}, {60, 2, 6, 999, 0}, {60, 2, 6, 25, 0}, {60, 2, 6, 25, 99},
            {10, 2, 6, 25, 0}, {60, 2, 6, 25, 7}};
        for (int i = 0; i < texts.length; i++) {
            CountedRoom x = new CountedRoom();
            Checks.story(x, 0, 0, "ab");
            Checks.style(x, 0, texts[i]);
            for (int what = 0; what < 5; what++) {
                same("P9 rule: what " + what + " of '" + texts[i] + "'", due[i][what], x.rule(0, 0, what));
            }
        }
    }

    private static void depth() {
        for (int deep = 0; deep <= 8; deep++) {
            StringBuilder brackets = new StringBuilder("free if ");
            StringBuilder nots = new StringBuilder("free if ");
            StringBuilder mixed = new StringBuilder("free if ");
            String close = "";
            for (int i = 1; i <= deep; i++) {
                brackets.append(i == 6 ? "?(" : "(");
                nots.append(i == 6 ? "?not " : "not ");
                mixed.append(i == 6 ? "?" : "").append(i % 2 == 0 ? "(" : "not ");
                close += i % 2 == 0 ? ")" : "";
            }
            String[] texts = {brackets + "head" + ")".repeat(deep), nots + "head", mixed + "head" + close};
            for (String text : texts) {
                if (deep <= 5) {
                    taken("Part 2: ( and not " + deep + " deep", 1, text);
                } else {
                    wrongAt("Part 2: ( and not " + deep + " deep", text);
                }
            }
        }
        wrongAt("Part 2: a 6th ( in five not", "free if not not not not not ?(head)");
        wrongAt("Part 2: a 6th not in five (", "free if (((((?not head)))))");
        wrongAt("Part 2: a 6th one behind an and", "free if (((((head and ?(late))))))");
        wrongAt("Part 2: a 6th one behind an or", "free if (((((head or ?not late)))))");
        wrongAt("Part 2: a 6th one of a measure", "measure 60 if ((((( ?(head))))))");
        wrongAt("Part 2: a 6th one of a pay", "pay 60 if not ((((?(head)))))");
    }

    private static void depthBesideOneAnother() {
        taken("Part 2: five deep beside five deep", 1, "free if (((((head))))) and (((((late))))) or (((((head)))))");
        taken("Part 2: five not beside five not", 1, "free if not not not not not head or not not not not not late");
        taken("Part 2: five deep in each RULE", 2, "free if (((((head))))); free if (((((late)))))");
        taken("Part 2: one deep, many times", 1, "free if " + Checks.many("(head)", 40, "or"));
        taken("Part 2: a not ends with its ATOM", 1, "free if not head and ((((late))))");
        taken("Part 2: a not ends with its ATOM, five deep behind", 1, "free if not head and (((((late)))))");
        wrongAt("Part 2: six deep behind five deep", "free if (((((head))))) or (((((?(late))))))");
    }

    private static void wordsGoOn() {
        String[] words = {"measure", "space", "part", "fat", "pay", "free", "close"};
        for (String word : words) {
            wrong("Part 2: a letter more, " + word, 0, word + "s 10");
            wrong("Part 2: a letter less, " + word, 0, word.substring(0, word.length() - 1) + " 10");
            wrong("Part 2: a letter ahead, " + word, 0, "a" + word + " 10");
            wrong("Part 2: a great letter, " + word, 0, word.substring(0, 1).toUpperCase() + word.substring(1) + " 10");
            wrong("Part 2: the word alone, " + word, word.length(), word);
        }
        String[] facts = {"words", "bits", "due", "minute", "letters", "machine"};
        for (String fact : facts) {
            taken("Part 2: " + fact, 1, "free if " + fact + "<5");
            wrongAt("Part 2: a letter more, " + fact, "free if ?" + fact + "s<5");
            wrongAt("Part 2: a letter less, " + fact, "free if ?" + fact.substring(0, fact.length() - 1) + "<5");
            wrongAt("Part 2: alone, " + fact, "free if " + fact + "?");
            wrongAt("Part 2: and no < nor >, " + fact, "free if " + fact + " ?= 5");
            wrongAt("Part 2: as a TAG, " + fact, "free if " + fact + " ?and head");
        }
        String[] tags = {"head", "late", "corrected"};
        for (String tag : tags) {
            taken("Part 2: " + tag, 1, "free if " + tag);
            wrongAt("Part 2: a letter more, " + tag, "free if ?" + tag + "s");
            wrongAt("Part 2: a letter less, " + tag, "free if ?" + tag.substring(0, tag.length() - 1));
            wrongAt("Part 2: as a FACT, " + tag, "free if " + tag + " ?< 5");
        }
        wrongAt("Part 2: two words with no blank", "free if ?headand late");
        wrongAt("Part 2: not with no blank", "free if ?nothead");
        wrongAt("Part 2: and with no blank behind", "free if head ?andlate");
        wrongAt("Part 2: or with no blank behind", "free if head ?orlate");
        wrongAt("Part 2: another word than if", "free ?when head");
        wrongAt("Part 2: another word than at", "close 1 ?on 2");
        wrongAt("Part 2: a word where none stands", "fat 1 ?if head");
        wrongAt("Part 2: if of part", "part 1 ?if head");
        wrongAt("Part 2: if of space", "space 1 2 ?if head");
        wrongAt("Part 2: if of close", "close 1 at 2 ?if head");
    }

    private static void blanks() {
        taken("Part 2: no blanks but where words end", 3, "measure10if head and(late or words<5);fat1;close1at2");
        taken("Part 2: blanks between all", 2,
            "  measure  10  if  (  head  and  not  late  or  words  <  5  )  ;  close  1  at  2  ");
        taken("Part 2: blanks ahead up to 400 bytes", 1, " ".repeat(395) + "fat 1");
        taken("Part 2: blanks behind up to 400 bytes", 1, "fat 1" + " ".repeat(395));
        wrongAt("Part 2: a blank within a word", "?mea sure 10");
        wrongAt("Part 2: another byte than a blank", "fat?\t1");
    }

    private static void nothingThere() {
        taken("Part 2: an empty text", 0, "");
        taken("Part 2: a blank", 0, " ");
        taken("Part 2: 400 blanks", 0, " ".repeat(400));
        CountedRoom x = new CountedRoom();
        Checks.story(x, 0, 0, "ab");
        Checks.style(x, 0, "measure 10; fat 9");
        Checks.style(x, 0, " ");
        same("P9 rule: by an empty text", 60, x.rule(0, 0, 0));
        same("P9 rule: FAT by an empty text", 0, x.rule(0, 0, 4));
        same("Part 2: it is a STYLE", 2, x.count(13));
    }

    private static void moreMustCome() {
        String[] begun = {"measure", "measure 10 if", "space", "space 1", "part", "fat", "pay", "pay 1 if", "free",
            "free if", "close", "close 1", "close 1 at", "fat 1;", "free if not", "free if (", "free if (head",
            "free if head and", "free if head or", "free if words", "free if words <", "free if words >",
            "free if (head and", "free if not (late"};
        for (String text : begun) {
            wrong("Part 2: more must come", text.length(), text);
            wrong("Part 2: more must come behind a blank", text.length() + 1, text + " ");
            wrong("Part 2: more must come behind 400 bytes", 400, text + " ".repeat(400 - text.length()));
        }
    }

    private static void otherBytes() {
        for (int c = 0; c < 256; c++) {
            char sign = (char) c;
            boolean isWord = c >= 'a' && c <= 'z';
            if (c != ' ') {
                wrong("Part 2: byte " + c + " ahead", 0, sign + "fat 5");
            }
            if (c != ' ' && !(c >= '0' && c <= '9') && c != ';') {
                wrong("Part 2: byte " + c + " behind a NUMBER", 5, "fat 5" + sign);
            }
            if (c != ' ' && c != ';') {
                wrong("Part 2: byte " + c + " behind a TAG", isWord ? 8 : 12, "free if head" + sign);
            }
            if (c != ' ' && c != '<' && c != '>') {
                wrong("Part 2: byte " + c + " behind a FACT", isWord ? 8 : 11, "free if due" + sign + "5");
            }
        }
    }

    private static boolean holds(CountedRoom x, int part, int minute, String condition) {
        x.end(0);
        Checks.style(x, 0, "measure 99 if " + condition);
        return x.rule(part, minute, 0) == 99;
    }

    private static void tags() {
        for (int due : new int[] {0, 1, 300, 599, 600}) {
            CountedRoom x = new CountedRoom();
            Checks.story(x, 0, due, "ab");
            Checks.story(x, 1, due, "ab");
            Checks.style(x, 0, "measure 99 if late");
            same("Part 2: not late at its DUE " + due, 60, x.rule(0, due, 0));
            if (due < 600) {
                same("Part 2: late a minute above " + due, 99, x.rule(0, due + 1, 0));
                same("Part 2: late at 600, DUE " + due, 99, x.rule(0, 600, 0));
            }
            same("Part 2: not late at 0, DUE " + due, 60, x.rule(0, 0, 0));
            same("Part 2: head of FACE 0", false, holds(x, 0, 0, "head"));
            same("Part 2: head of FACE 1", true, holds(x, 5, 0, "head"));
            same("Part 2: no PART is corrected", false, holds(x, 0, 0, "corrected"));
        }
    }

    private static void facts() {
        String[] facts = {"words", "bits", "due", "minute", "letters", "machine"};
        int[] are = {2, 3, 300, 7, 0, 99};
        for (int i = 0; i < facts.length; i++) {
            CountedRoom x = new CountedRoom();
            Checks.story(x, 0, 300, "ab cd-ef");
            String of = "Part 2: " + facts[i] + " is " + are[i] + ", ";
            same(of + "not below itself", false, holds(x, 0, 7, facts[i] + " < " + are[i]));
            same(of + "not above itself", false, holds(x, 0, 7, facts[i] + " > " + are[i]));
            same(of + "below one more", true, holds(x, 0, 7, facts[i] + " < " + (are[i] + 1)));
            same(of + "not above one more", false, holds(x, 0, 7, facts[i] + " > " + (are[i] + 1)));
            if (are[i] > 0) {
                same(of + "above one less", true, holds(x, 0, 7, facts[i] + " > " + (are[i] - 1)));
                same(of + "not below one less", false, holds(x, 0, 7, facts[i] + " < " + (are[i] - 1)));
            }
            same(of + "below 9999", true, holds(x, 0, 7, facts[i] + " < 9999"));
            same(of + "not above 9999", false, holds(x, 0, 7, facts[i] + " > 9999"));
            wrongAt("Part 2: 10000 behind " + facts[i], "free if " + facts[i] + " < ?10000");
            wrongAt("Part 2: 00000 behind " + facts[i], "free if " + facts[i] + " > ?00000");
        }
    }

    private static void factsOfAPart() {
        CountedRoom x = new CountedRoom();
        Checks.story(x, 0, 600, Checks.many("a", 24, " ") + "/" + Checks.many("a", 40, "-") + "/b");
        same("Part 2: 24 WORDS", true, holds(x, 0, 0, "words > 23 and words < 25 and bits > 23 and bits < 25"));
        same("Part 2: 40 BITS", true, holds(x, 1, 0, "bits > 39 and bits < 41 and words > 0 and words < 2"));
        same("Part 2: one WORD", true, holds(x, 2, 0, "words > 0 and words < 2 and bits > 0 and bits < 2"));
        same("Part 2: minute 0", true, holds(x, 0, 0, "minute < 1"));
        same("Part 2: minute 600", true, holds(x, 0, 600, "minute > 599 and minute < 601"));
        same("Part 2: DUE 600", true, holds(x, 0, 0, "due > 599 and due < 601"));
        same("Part 2: never late", false, holds(x, 0, 600, "late"));
    }

    private static void wordsAndBitsNow() {
        CountedRoom x = new CountedRoom();
        Checks.style(x, 0, "measure 50 if bits > 2; measure 70 if bits < 2");
        Checks.story(x, 0, 0, "ab-cd");
        x.machine(9, 0);
        same("Part 2: two BITS", 60, x.rule(0, 0, 0));
        Checks.correct(x, 0, 0, 0, "ab-cd-ef");
        same("Part 2: three BITS now", 50, x.rule(0, 0, 0));
        Checks.correct(x, 0, 0, 0, "ab");
        same("Part 2: one BIT now", 70, x.rule(0, 0, 0));
    }

    /** As long a condition as there may be: in one RULE, or in the last one of twelve. */
    private static void conditionsOfMost() {
        CountedRoom x = new CountedRoom();
        Checks.story(x, 0, 0, "ab");
        String and = "measure 10 if late" + " and late".repeat(42);
        same("Part 2: 396 bytes of ATOMS", 396, and.length());
        Checks.style(x, 0, and);
        same("Part 2: none of them", 60, x.rule(0, 0, 0));
        same("Part 2: all of them", 10, x.rule(0, 1, 0));
        Checks.style(x, 0, "measure 11 if head" + " or head".repeat(46) + " or late");
        same("Part 2: not the last one", 60, x.rule(0, 0, 0));
        same("Part 2: the last one alone", 11, x.rule(0, 1, 0));
        Checks.style(x, 0, "measure 12 if due<1" + "or due<1".repeat(46));
        same("Part 2: as many < as there may be", 12, x.rule(0, 0, 0));
        same("P6 style: 12 RULES with conditions", 12, Checks.style(x, 0, Checks.many("measure 13 if not not late", 12, ";")));
        same("Part 2: none of twelve", 60, x.rule(0, 0, 0));
        same("P9 rule: the last one of twelve", 11, x.rule(0, 1, 5));
    }

    private static void lastThatHolds() {
        CountedRoom x = new CountedRoom();
        Checks.story(x, 0, 0, "ab");
        Checks.style(x, 0, "measure 10; measure 11; measure 12 if head");
        same("Part 2: the last but one holds", 11, x.rule(0, 0, 0));
        same("P9 rule: it is RULE 1", 1, x.rule(0, 0, 5));
        Checks.style(x, 0, "measure 10 if late; measure 11 if head");
        same("Part 2: none holds at 0", 60, x.rule(0, 0, 0));
        same("P9 rule: none is its MEASURE", NONE, x.rule(0, 0, 5));
        same("Part 2: the first one holds at 1", 10, x.rule(0, 1, 0));
        same("P9 rule: it is RULE 0", 0, x.rule(0, 1, 5));
        Checks.style(x, 0, Checks.many("fat 1", 11, ";") + ";measure 12");
        same("Part 2: the 12th RULE", 12, x.rule(0, 0, 0));
        same("P9 rule: it is RULE 11", 11, x.rule(0, 0, 5));
    }

    private static void usual() {
        CountedRoom x = new CountedRoom();
        Checks.story(x, 0, 0, "ab");
        int[] due = {60, 2, 6, 25, 0, NONE};
        for (int what = 0; what < 6; what++) {
            same("Part 2: without a STYLE, what " + what, due[what], x.rule(0, 0, what));
            same("Part 2: without a STYLE at 600, what " + what, due[what], x.rule(0, 600, what));
        }
        Checks.style(x, 0, "pay 5; free if head; close 0 at 5");
        for (int what = 0; what < 6; what++) {
            same("Part 2: without such a RULE, what " + what, due[what], x.rule(0, 0, what));
        }
    }
}
