/**
 * Part 6, and promises 28 to 31: of each sentence that names an edge what is taken last and refused first, nothing,
 * one, as many as there may be, and one more. What a refused call leaves as it was is in RefusalsOfPagesTest.
 */
public final class EdgesOfReadersTest extends Edges {
    public static void main(String[] args) {
        twoReaders();
        readBeforeAndBehind();
        nothingMarked();
        missed();
        markedOfThoseThatLie();
        markedAndWrong();
        racks();
        minutesOfATelling();
        twoHundredTellings();
        whereOfNothing();
        whereByMinute();
        whereByKnown();
        twoRacks();
        eachSlugAlone();
        Checks.finish("EdgesOfReadersTest");
    }

    /** So many LINES of two letters each, all of them cast, one a minute. */
    private static CountedRoom cast(int lines) {
        CountedRoom x = new CountedRoom();
        x.width(0, 0, 5);
        x.width(0, 1, 5);
        Checks.style(x, 0, "measure 10; space 1 40");
        Checks.story(x, 0, 0, Checks.many("ab", lines, " "));
        x.machine(40, 0);
        x.give(0, 0);
        x.minutes(lines);
        return x;
    }

    private static void twoReaders() {
        CountedRoom x = cast(2);
        for (int slug = 0; slug < 2; slug++) {
            for (int reader = 0; reader < 2; reader++) {
                same("P28 read: READER " + reader + ", SLUG " + slug, true, x.read(reader, slug));
                same("P28 read: READER " + reader + " did, SLUG " + slug, false, x.read(reader, slug));
            }
        }
        refuses("P28 read: READER 2", INDEX, () -> x.read(2, 0));
        refuses("P28 read: READER -1", INDEX, () -> x.read(-1, 0));
        refuses("P28 read: SLUG 2 of two", INDEX, () -> x.read(0, 2));
        refuses("P28 read: SLUG -1", INDEX, () -> x.read(0, -1));
        refuses("P28 read: READER 31", INDEX, () -> x.read(31, 0));
        refuses("P28 read: READER 32", INDEX, () -> x.read(32, 0));
        CountedRoom y = new CountedRoom();
        refuses("P28 read: SLUG 0 of none", INDEX, () -> y.read(0, 0));
    }

    private static void readBeforeAndBehind() {
        CountedRoom x = cast(2);
        x.pie(0);
        same("P28 read: one that lies nowhere", true, x.read(0, 0));
        same("P28 read: it did", false, x.read(0, 0));
        same("P29 proof: A has it not", 0, x.proof(0));
        x.read(1, 1);
        same("P29 proof: B has one", 1, x.proof(1));
        x.slip(1, 0, 25);
        same("P28 read: changed since, it did", false, x.read(1, 1));
    }

    private static void nothingMarked() {
        CountedRoom none = new CountedRoom();
        CountedRoom x = cast(3);
        int[] due = {0, 0, 0, NONE, 0, 0};
        for (int what = 0; what < 6; what++) {
            same("P29 proof: no SLUG, what " + what, due[what], none.proof(what));
            same("P29 proof: nothing marked, what " + what, due[what], x.proof(what));
        }
        refuses("P29 proof: what 6", NO_ELEMENT, () -> x.proof(6));
        refuses("P29 proof: what -1", NO_ELEMENT, () -> x.proof(-1));
    }

    /** What A and B have, and both of them: MISSED is the one's rest times the other one's by that, rounded down. */
    private static void missed() {
        int[][] marks = {{0, 0, 0}, {1, 0, 0}, {0, 1, 0}, {3, 4, 0}, {1, 1, 1}, {2, 1, 1}, {2, 2, 1}, {3, 3, 2},
            {4, 3, 2}, {5, 5, 3}, {5, 6, 3}, {5, 4, 4}, {7, 7, 6}, {12, 12, 1}};
        int[] due = {NONE, NONE, NONE, NONE, 0, 0, 1, 0, 1, 1, 2, 0, 0, 121};
        for (int i = 0; i < marks.length; i++) {
            CountedRoom x = cast(23);
            int a = marks[i][0];
            int b = marks[i][1];
            int both = marks[i][2];
            for (int slug = 0; slug < a; slug++) {
                x.read(0, slug);
            }
            for (int slug = a - both; slug < a - both + b; slug++) {
                x.read(1, slug);
            }
            String of = "Part 6: " + a + " and " + b + ", both " + both + ", ";
            same(of + "A", a, x.proof(0));
            same(of + "B", b, x.proof(1));
            same(of + "BOTH", both, x.proof(2));
            same(of + "MISSED", due[i], x.proof(3));
        }
    }

    private static void markedOfThoseThatLie() {
        CountedRoom x = cast(3);
        x.read(0, 0);
        x.read(1, 0);
        x.read(0, 1);
        x.read(1, 2);
        same("Part 6: MISSED 1 times 1 by 1", 1, x.proof(3));
        x.pie(1);
        same("Part 6: A without the PIED one", 1, x.proof(0));
        same("Part 6: MISSED none of A alone", 0, x.proof(3));
        x.pie(0);
        same("Part 6: BOTH is 0 then", 0, x.proof(2));
        same("Part 6: no MISSED then", NONE, x.proof(3));
        Checks.correct(x, 0, 2, 0, "ba");
        same("Part 6: B without one in the POT", 0, x.proof(1));
    }

    private static void markedAndWrong() {
        CountedRoom x = cast(4);
        x.slip(0, 0, 25);
        x.slip(1, 0, 25);
        x.read(0, 0);
        x.read(1, 2);
        same("P29 proof: marked and not WRONG", 1, x.proof(4));
        same("P29 proof: WRONG and not marked", 1, x.proof(5));
        x.read(1, 1);
        same("P29 proof: nobody is left", 0, x.proof(5));
        x.slip(0, 0, 0);
        same("P29 proof: not WRONG any more", 2, x.proof(4));
        x.slip(3, 1, 25);
        same("P29 proof: WRONG now", 1, x.proof(5));
        x.pie(3);
        x.pie(2);
        same("P29 proof: WRONG and PIED", 0, x.proof(5));
        same("P29 proof: marked and PIED", 1, x.proof(4));
    }

    private static void racks() {
        CountedRoom x = cast(1);
        int told = 0;
        for (int rack : new int[] {0, 1, 8, 9}) {
            told++;
            x.minutes(1);
            int now = x.count(0);
            same("P30 carry: RACK " + rack, told, x.carry(0, rack, now));
            same("P31 where: RACK " + rack, rack, x.where(0, now, now));
        }
        refuses("P30 carry: RACK 10", ARGUMENT, () -> x.carry(0, 10, 3));
        refuses("P30 carry: RACK -1", ARGUMENT, () -> x.carry(0, -1, 3));
        same("P48 count: tellings", 4, x.count(10));
    }

    private static void minutesOfATelling() {
        CountedRoom x = cast(3);
        x.minutes(2);
        for (int slug = 0; slug < 3; slug++) {
            int of = slug;
            int castAt = slug + 1;
            refuses("P30 carry: a minute ahead of its casting", ARGUMENT, () -> x.carry(of, 1, castAt - 1));
            same("P30 carry: the minute of its casting", 2 * slug + 1, x.carry(slug, 1, castAt));
            same("P30 carry: NOW", 2 * slug + 2, x.carry(slug, 2, 5));
            refuses("P30 carry: a minute behind NOW", ARGUMENT, () -> x.carry(of, 1, 6));
            same("P31 where: at its casting", 1, x.where(slug, castAt, 5));
            same("P31 where: a minute ahead of that", NONE, x.where(slug, castAt - 1, 5));
            same("P31 where: a minute ahead of NOW", castAt == 5 ? 2 : 1, x.where(slug, 4, 5));
            same("P31 where: NOW", 2, x.where(slug, 5, 5));
        }
        refuses("P30 carry: SLUG 3 of three", INDEX, () -> x.carry(3, 1, 5));
        refuses("P30 carry: SLUG -1", INDEX, () -> x.carry(-1, 1, 5));
        CountedRoom y = cast(1);
        same("P30 carry: in the minute of its casting", 1, y.carry(0, 1, 1));
        refuses("P30 carry: the minute ahead of it", ARGUMENT, () -> y.carry(0, 1, 0));
        refuses("P30 carry: the minute behind it", ARGUMENT, () -> y.carry(0, 1, 2));
        for (int i = 0; i < 5; i++) {
            y.minutes(120);
        }
        same("P30 carry: minute 600", 2, y.carry(0, 2, 600));
        refuses("P30 carry: minute 601", ARGUMENT, () -> y.carry(0, 2, 601));
        same("P31 where: at 600", 2, y.where(0, 600, 600));
        same("P31 where: at 599", 1, y.where(0, 599, 600));
    }

    private static void twoHundredTellings() {
        CountedRoom x = cast(2);
        for (int i = 1; i <= 200; i++) {
            same("P30 carry: one of 200", i, x.carry(i % 2, i == 200 ? 9 : 3, i == 200 ? 2 : 1 + i % 2));
        }
        same("P48 count: 200 tellings", 200, x.count(10));
        same("P30 carry: a 201st", NONE, x.carry(1, 5, 2));
        same("P48 count: 200 tellings still", 200, x.count(10));
        same("P31 where: by the 200th", 9, x.where(0, 2, 2));
        same("P31 where: by the one ahead of it", 3, x.where(0, 1, 2));
        same("P31 where: not by the 201st", 3, x.where(1, 2, 2));
        refuses("P30 carry: a 201st at no RACK", ARGUMENT, () -> x.carry(1, 10, 2));
    }

    private static void whereOfNothing() {
        CountedRoom x = cast(2);
        same("P31 where: nothing told", NONE, x.where(0, 2, 2));
        x.carry(0, 4, 2);
        same("P31 where: nothing told of it", NONE, x.where(1, 2, 2));
        same("P31 where: told of it", 4, x.where(0, 2, 2));
        refuses("P31 where: SLUG 2 of two", INDEX, () -> x.where(2, 2, 2));
        refuses("P31 where: SLUG -1", INDEX, () -> x.where(-1, 2, 2));
        x.pie(0);
        same("P31 where: told of a PIED one", 4, x.where(0, 2, 2));
    }

    private static void whereByMinute() {
        CountedRoom x = cast(1);
        x.minutes(20);
        x.carry(0, 1, 5);
        x.carry(0, 2, 15);
        x.carry(0, 3, 10);
        int[] minutes = {Integer.MIN_VALUE, -1, 0, 4, 5, 6, 9, 10, 11, 14, 15, 16, 21, 600, Integer.MAX_VALUE};
        int[] due = {NONE, NONE, NONE, NONE, 1, 1, 1, 3, 3, 3, 2, 2, 2, 2, 2};
        for (int i = 0; i < minutes.length; i++) {
            same("P31 where: at " + minutes[i], due[i], x.where(0, minutes[i], 21));
        }
    }

    private static void whereByKnown() {
        CountedRoom x = cast(1);
        x.minutes(4);
        x.carry(0, 1, 5);
        x.minutes(5);
        x.carry(0, 2, 3);
        x.minutes(5);
        x.carry(0, 3, 15);
        int[] known = {Integer.MIN_VALUE, 0, 4, 5, 9, 10, 14, 15, 600, Integer.MAX_VALUE};
        int[] lates = {NONE, NONE, NONE, 1, 1, 1, 1, 3, 3, 3};
        int[] earlies = {NONE, NONE, NONE, NONE, NONE, 2, 2, 2, 2, 2};
        for (int i = 0; i < known.length; i++) {
            same("P31 where: at 15, as known at " + known[i], lates[i], x.where(0, 15, known[i]));
            same("P31 where: at 4, as known at " + known[i], earlies[i], x.where(0, 4, known[i]));
        }
    }

    private static void twoRacks() {
        CountedRoom x = cast(1);
        x.minutes(4);
        x.carry(0, 0, 3);
        x.carry(0, 0, 3);
        same("P31 where: one RACK, told twice", 0, x.where(0, 3, 5));
        x.carry(0, 7, 2);
        same("P31 where: another RACK of an earlier minute", 0, x.where(0, 3, 5));
        x.minutes(1);
        x.carry(0, 9, 3);
        same("P31 where: two RACKS of that minute", NONE, x.where(0, 3, 6));
        same("P31 where: two RACKS, as known ahead of the second", 0, x.where(0, 3, 5));
        same("P31 where: the earlier minute has one", 7, x.where(0, 2, 6));
        x.carry(0, 0, 3);
        same("P31 where: the first RACK once more", NONE, x.where(0, 3, 6));
        x.carry(0, 5, 3);
        same("P31 where: three RACKS", NONE, x.where(0, 3, 6));
        x.carry(0, 6, 4);
        same("P31 where: one RACK of a later minute", 6, x.where(0, 4, 6));
        same("P31 where: up to the minute of many RACKS", NONE, x.where(0, 3, 6));
    }

    private static void eachSlugAlone() {
        CountedRoom x = cast(2);
        x.carry(0, 1, 2);
        x.carry(1, 2, 2);
        same("P31 where: another RACK of another SLUG", 1, x.where(0, 2, 2));
        same("P31 where: and of that one", 2, x.where(1, 2, 2));
    }
}
