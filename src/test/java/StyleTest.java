/** Promises 6, 7 and 9: STYLES, their first wrong byte, and what RULES say of a PART. */
public final class StyleTest extends Checked {
    public static void main(String[] args) {
        howManyRules();
        refusals();
        rightTexts();
        wrongTexts();
        depths();
        thirteenRules();
        cutTexts();
        fourHundredBytes();
        without();
        conditions();
        precedence();
        lastRuleThatHolds();
        minutesOfStyles();
        ruleRefuses();
        Checks.finish("StyleTest");
    }

    private static void howManyRules() {
        CountedRoom x = new CountedRoom();
        same("P6 empty", 0, Checks.style(x, 0, ""));
        same("P6 blanks", 0, Checks.style(x, 0, "    "));
        same("P6 one", 1, Checks.style(x, 0, "measure 10"));
        same("P6 three", 3, Checks.style(x, 600, "measure 10;space 1 1;fat 0"));
        same("P6 twelve", 12, Checks.style(x, 5, Checks.many("fat 1", 12, ";")));
        same("P48 five styles", 5, x.count(13));
        same("P6 used up", false, x.end(1));
        for (int i = 0; i < 5; i++) {
            same("P6 more", 1, Checks.style(x, 0, "fat 2"));
        }
        Checks.tell(x, "fat 2");
        refuses("P6 an 11th", UNSUPPORTED, () -> x.style(0));
        same("P7 it was read, and right", NONE, x.fault());
        Checks.tell(x, "fat x");
        refuses("P6 a wrong 11th", ARGUMENT, () -> x.style(0));
        same("P7 its fault", 4, x.fault());
        same("P48 ten styles", 10, x.count(13));
    }

    private static void refusals() {
        CountedRoom x = new CountedRoom();
        Checks.tell(x, "?");
        refuses("P6 minute 601", ARGUMENT, () -> x.style(601));
        same("P7 not read", NONE, x.fault());
        same("P6 used up there, too", false, x.end(1));
        x.minutes(5);
        Checks.tell(x, "?");
        refuses("P6 minute 4", ARGUMENT, () -> x.style(4));
        same("P7 not read either", NONE, x.fault());
        same("P6 minute 5", 0, Checks.style(x, 5, ""));
        Checks.tell(x, "?");
        refuses("P6 a wrong text", ARGUMENT, () -> x.style(5));
        same("P7 read", 0, x.fault());
        Checks.tell(x, "?");
        refuses("P6 minute -1", ARGUMENT, () -> x.style(-1));
        same("P7 stays", 0, x.fault());
        same("P48 one style", 1, x.count(13));
    }

    private static void rightTexts() {
        String[] texts = {"measure 10", "measure 400", "measure 0010", "space 1 1", "space 40 40", "part 0", "part 999",
            "fat 99", "pay 999", "close 0 at 0", "close 5 at 600", "  measure  60  ", "measure 60if head",
            "measure 60 if(head)", "free if head", "free if(head)or(late)and corrected", "pay 1 if words<0",
            "pay 1 if words < 9999", "pay 1 if bits>0000", "pay 1 if due<1 or minute>2 and letters<3 or machine>4",
            "free if not head", "free if not(head)", "close 1at2", "space 1 2;space 2 3 ; part 3",
            "free if((late))", "free if not not head"};
        for (String text : texts) {
            CountedRoom x = new CountedRoom();
            Checks.tell(x, text);
            int rules = text.length() - text.replace(";", "").length() + 1;
            same("P6 '" + text + "'", rules, x.style(0));
            same("P7 of it", NONE, x.fault());
        }
    }

    private static void wrongTexts() {
        String[] texts = {"measure 9", "measure 401", "measure 00060", "measure", "measure ", "measure x", "measure -1",
            "Measure 60", "measures 60", "measur 60", "measure60 60", "measure 60 60", "measure 60;", "measure 60; ",
            "measure 60;;", ";", "measure 60 if", "measure 60 if ", "measure 60 if x", "measure 60 iff head",
            "space 0 5", "space 1", "space 5 4", "space 1 41", "space 41 41", "space 5 5 if head", "part 1000",
            "part 5 if head", "fat 100", "fat 5 if head", "pay 1000", "pay 5 head", "free", "free head", "free if",
            "close 6 at 0", "close 0 on 0", "close 0 at 601", "close 0 at", "close 0", "close", "close 0 att 5",
            "free if head late", "free if head or", "free if head and ", "free if or head", "free if (head",
            "free if (head ", "free if head)", "free if ()", "free if not", "free if words", "free if words=5",
            "free if words < x", "free if words < 10000", "free if words <", "free if head < 5", "free if 5 < words",
            "free if words > 5 5", "measure 60\n", "fat 1 \u00e9", "free if(head or late", "free if not and",
            "fat 1 fat 2", "fat 1, fat 2", "free if head ornot late", "free if headlate", "5", "if head"};
        int[] faults = {8, 8, 8, 7, 8, 8, 8,
            0, 0, 0, 10, 11, 11, 12,
            11, 0, 13, 14, 14, 11,
            6, 7, 8, 8, 6, 10, 5,
            7, 4, 6, 4, 6, 4, 5, 7,
            6, 8, 11, 10, 7, 5, 8,
            13, 15, 17, 8, 13,
            14, 12, 9, 11, 13, 13,
            16, 16, 15, 13, 8,
            18, 10, 6, 20, 12,
            6, 5, 13, 8, 0, 0};
        same("P7 as many faults as texts", texts.length, faults.length);
        for (int i = 0; i < texts.length; i++) {
            CountedRoom x = new CountedRoom();
            Checks.tell(x, texts[i]);
            refuses("P6 '" + texts[i] + "'", ARGUMENT, () -> x.style(0));
            same("P7 of '" + texts[i] + "'", faults[i], x.fault());
            same("P6 no style", 0, x.count(13));
        }
    }

    private static void depths() {
        CountedRoom x = new CountedRoom();
        same("P6 five ( deep", 1, Checks.style(x, 0, "free if (((((head)))))"));
        same("P6 five not deep", 1, Checks.style(x, 0, "free if not not not not not head"));
        same("P6 mixed", 1, Checks.style(x, 0, "free if not(not(not head))"));
        same("P6 many beside one another", 1, Checks.style(x, 0, "free if " + Checks.many("(((((late)))))", 9, "or")));
        Checks.tell(x, "free if ((((((head))))))");
        refuses("P6 six ( deep", ARGUMENT, () -> x.style(0));
        same("P7 the sixth (", 13, x.fault());
        Checks.tell(x, "free if not not not not not not head");
        refuses("P6 six not deep", ARGUMENT, () -> x.style(0));
        same("P7 the sixth not", 28, x.fault());
        Checks.tell(x, "free if not(not(not(not head)))");
        refuses("P6 seven mixed", ARGUMENT, () -> x.style(0));
        same("P7 the sixth of them", 19, x.fault());
        Checks.tell(x, "free if head and (((((late or (head))))))");
        refuses("P6 six deep behind an or", ARGUMENT, () -> x.style(0));
        same("P7 that one", 30, x.fault());
    }

    private static void thirteenRules() {
        CountedRoom x = new CountedRoom();
        String twelve = Checks.many("fat 1", 12, ";");
        Checks.tell(x, twelve + "; fat 1");
        refuses("P6 thirteen", ARGUMENT, () -> x.style(0));
        same("P7 the first word of the 13th", 73, x.fault());
        Checks.tell(x, twelve + "; ");
        refuses("P6 a 13th must come", ARGUMENT, () -> x.style(0));
        same("P7 the text's length", 73, x.fault());
        Checks.tell(x, twelve + " fat");
        refuses("P6 no ; there", ARGUMENT, () -> x.style(0));
        same("P7 the word", 72, x.fault());
    }

    /** What was on the TAPE behind the text is not read. */
    private static void cutTexts() {
        String[] texts = {"measure 60", "free if head", "fat 9", "free if late or words<12", "free if (head)", "", "  ",
            "fat 1 ", "free if not late"};
        for (String text : texts) {
            for (char behind : "a0;)( ?".toCharArray()) {
                CountedRoom x = new CountedRoom();
                Checks.tell(x, text.getBytes(java.nio.charset.StandardCharsets.ISO_8859_1), behind);
                same("P3 '" + text + "' cut ahead of " + behind, text.isBlank() ? 0 : 1, x.style(0));
            }
        }
        CountedRoom x = new CountedRoom();
        Checks.tell(x, "measure 1234");
        x.end(10);
        same("P3 two digits are left", 1, x.style(0));
        Checks.tell(x, "measure 60 if head");
        x.end(17);
        refuses("P3 hea is none", ARGUMENT, () -> x.style(0));
        same("P7 it begins there", 14, x.fault());
        Checks.tell(x, "free if (head)");
        x.end(13);
        refuses("P3 the ) is cut off", ARGUMENT, () -> x.style(0));
        same("P7 the text's length", 13, x.fault());
    }

    private static void fourHundredBytes() {
        CountedRoom x = new CountedRoom();
        String long396 = "free if head" + Checks.many(" or head", 48, "");
        same("P6 400 bytes", 1, Checks.style(x, 0, long396 + "    "));
        Checks.tell(x, long396 + " or ");
        refuses("P6 400 bytes, and more must come", ARGUMENT, () -> x.style(0));
        same("P7 the text's length", 400, x.fault());
        Checks.tell(x, long396 + "; or");
        refuses("P6 a wrong word at their end", ARGUMENT, () -> x.style(0));
        same("P7 its begin", 398, x.fault());
        // late in the middle of many that are not so
        String many = "measure 99 if head" + Checks.many(" or head", 20, "") + " or late" + Checks.many(" or head", 20, "");
        Checks.story(x, 0, 0, "ab");
        same("P6 many atoms", 1, Checks.style(x, 0, many));
        same("P9 none of them", 60, x.rule(0, 0, 0));
        same("P9 one of them", 99, x.rule(0, 1, 0));
        same("P6 many not and ands", 1, Checks.style(x, 0, "measure 98 if late"
            + Checks.many(" and not head", 28, "")));
        same("P9 not all of them", 60, x.rule(0, 0, 0));
        same("P9 all of them", 98, x.rule(0, 1, 0));
        String deep = "(late or (late or (late or (late or (late or head and head and head)))))";
        same("P6 a deep one", 1, Checks.style(x, 0, "measure 97 if " + deep + " and " + deep + " and " + deep));
        same("P9 late", 97, x.rule(0, 1, 0));
        same("P9 not late", 60, x.rule(0, 0, 0));
    }

    private static CountedRoom roomWithParts() {
        CountedRoom x = new CountedRoom();
        Checks.story(x, 0, 10, "ab cd-ef / gh");
        Checks.story(x, 1, 20, "ab-cd-ef");
        return x;
    }

    private static void without() {
        CountedRoom x = roomWithParts();
        int[] usual = {60, 2, 6, 25, 0, NONE};
        for (int what = 0; what < 6; what++) {
            same("P9 without a style", usual[what], x.rule(0, 0, what));
        }
        Checks.style(x, 0, "");
        for (int what = 0; what < 6; what++) {
            same("P9 without a rule", usual[what], x.rule(5, 600, what));
        }
        Checks.style(x, 0, "pay 5; measure 70; space 3 4; part 5; fat 6; close 0 at 7; free if head");
        int[] told = {70, 3, 4, 5, 6, 1};
        for (int what = 0; what < 6; what++) {
            same("P9 what was told", told[what], x.rule(1, 0, what));
        }
    }

    private static boolean holds(int part, int minute, String condition) {
        CountedRoom x = roomWithParts();
        Checks.style(x, 0, "measure 50; measure 99 if " + condition);
        return x.rule(part, minute, 0) == 99;
    }

    private static void conditions() {
        same("P9 head of face 0", false, holds(0, 0, "head"));
        same("P9 head of face 1", true, holds(5, 0, "head"));
        same("P9 late at its due", false, holds(0, 10, "late"));
        same("P9 late behind it", true, holds(0, 11, "late"));
        same("P9 another due", false, holds(5, 20, "late"));
        same("P9 no part is corrected", false, holds(0, 0, "corrected"));
        same("P9 words above 1", true, holds(0, 0, "words > 1"));
        same("P9 words not above 2", false, holds(0, 0, "words > 2"));
        same("P9 words below 3", true, holds(0, 0, "words < 3"));
        same("P9 words not below 2", false, holds(0, 0, "words < 2"));
        same("P9 words of part 1", true, holds(1, 0, "words<2 and words>0"));
        same("P9 bits", true, holds(0, 0, "bits>2 and bits<4"));
        same("P9 bits of part 5", true, holds(5, 0, "bits>2 and bits<4 and words<2"));
        same("P9 due", true, holds(0, 0, "due>9 and due<11"));
        same("P9 minute", true, holds(0, 33, "minute>32 and minute<34"));
        same("P9 letters are 0", true, holds(0, 0, "letters<1"));
        same("P9 machine is 99", true, holds(0, 0, "machine>98 and machine<100"));
        same("P9 not", true, holds(0, 0, "not head"));
        same("P9 not not", false, holds(0, 0, "not not head"));
    }

    private static void precedence() {
        // head is so, late and corrected are not
        same("P9 or behind and", true, holds(5, 0, "late and corrected or head"));
        same("P9 and ahead of or", true, holds(5, 0, "head or late and corrected"));
        same("P9 ( ahead of and", false, holds(5, 0, "(head or late) and corrected"));
        same("P9 not holds the next alone", true, holds(5, 0, "not late or head"));
        same("P9 not of a (", false, holds(5, 0, "not (late or head)"));
        same("P9 not and", false, holds(5, 0, "not head and late"));
        same("P9 not and of a (", true, holds(5, 0, "not (head and late)"));
        same("P9 three and", false, holds(5, 0, "head and head and late"));
        same("P9 three or", true, holds(5, 0, "late or corrected or head"));
    }

    private static void lastRuleThatHolds() {
        CountedRoom x = roomWithParts();
        Checks.style(x, 0, "measure 50; measure 60 if head; measure 70 if late; fat 1; fat 2; part 8; part 9;"
            + "space 1 2; space 3 4");
        same("P9 the first alone", 0, x.rule(0, 0, 5));
        same("P9 head", 1, x.rule(5, 0, 5));
        same("P9 late and head", 2, x.rule(5, 21, 5));
        same("P9 its measure", 70, x.rule(5, 21, 0));
        same("P9 the last space", 3, x.rule(0, 0, 1));
        same("P9 the last space, most", 4, x.rule(0, 0, 2));
        same("P9 the last part", 9, x.rule(0, 0, 3));
        same("P9 the last fat", 2, x.rule(0, 0, 4));
        Checks.style(x, 1, "measure 50 if head; fat 3");
        same("P9 none holds", NONE, x.rule(0, 1, 5));
        same("P9 then 60", 60, x.rule(0, 1, 0));
        same("P9 one holds", 0, x.rule(5, 1, 5));
    }

    private static void minutesOfStyles() {
        CountedRoom x = roomWithParts();
        Checks.style(x, 5, "measure 51");
        Checks.style(x, 9, "measure 52");
        Checks.style(x, 7, "measure 53");
        Checks.style(x, 7, "measure 54; fat 1");
        int[] minutes = {0, 4, 5, 6, 7, 8, 9, 10, 600};
        int[] measures = {60, 60, 51, 51, 54, 54, 52, 52, 52};
        for (int i = 0; i < minutes.length; i++) {
            same("P9 at minute " + minutes[i], measures[i], x.rule(0, minutes[i], 0));
        }
        same("P48 rules of the style of now", 0, x.count(2));
        x.minutes(5);
        same("P48 rules of minute 5", 1, x.count(2));
        x.minutes(2);
        same("P48 rules of minute 7", 2, x.count(2));
        same("P9 an earlier minute, as told now", 51, x.rule(0, 5, 0));
        Checks.style(x, 7, "measure 55");
        same("P9 the one that came last", 55, x.rule(0, 8, 0));
    }

    private static void ruleRefuses() {
        CountedRoom x = roomWithParts();
        refuses("P9 part 2", INDEX, () -> x.rule(2, -1, 9));
        refuses("P9 part -1", INDEX, () -> x.rule(-1, 0, 0));
        refuses("P9 minute -1", ARGUMENT, () -> x.rule(0, -1, 9));
        refuses("P9 minute 601", ARGUMENT, () -> x.rule(0, 601, 0));
        refuses("P9 what 6", NO_ELEMENT, () -> x.rule(0, 0, 6));
        refuses("P9 what -1", NO_ELEMENT, () -> x.rule(0, 0, -1));
        same("P9 minute 600", 60, x.rule(0, 600, 0));
    }
}
