/** Promises 27 to 31: letters told to be others, READERS, and CARRIERS. */
public final class ReadersTest extends Checked {
    public static void main(String[] args) {
        slip();
        slipOfAHyphen();
        slipOfThoseThatLieNowhere();
        read();
        proof();
        proofOfWrongOnes();
        carry();
        twoHundredTellings();
        where();
        whereRefuses();
        Checks.finish("ReadersTest");
    }

    private static void slip() {
        CountedRoom x = Rooms.pairs(9, 0, "ab cd ef");
        Rooms.castAll(x);
        same("P27 the same letter", false, x.slip(0, 0, 0));
        same("P19 not wrong", 0, x.slug(0, 8));
        same("P27 another one", true, x.slip(0, 2, 25));
        same("P20 it says", "ab zd", Checks.said(x, 0));
        same("P19 wrong", 1, x.slug(0, 8));
        same("P27 it was that one", false, x.slip(0, 2, 25));
        same("P27 another one still", true, x.slip(0, 2, 24));
        same("P19 wrong still", 1, x.slug(0, 8));
        same("P27 the last letter", true, x.slip(0, 3, 0));
        same("P20 it says", "ab ya", Checks.said(x, 0));
        same("P27 back", true, x.slip(0, 2, 2));
        same("P19 wrong by the other one", 1, x.slug(0, 8));
        same("P27 back, too", true, x.slip(0, 3, 3));
        same("P19 it says what its line said", 0, x.slug(0, 8));
        same("P48 none is wrong", 0, x.count(9));
        same("P19 letters", 4, x.slug(0, 3));
        refuses("P27 slug 2", INDEX, () -> x.slip(2, 99, 99));
        refuses("P27 slug -1", INDEX, () -> x.slip(-1, 0, 0));
        refuses("P27 letter 4 of it", ARGUMENT, () -> x.slip(0, 4, 0));
        refuses("P27 letter -1 of it", ARGUMENT, () -> x.slip(0, -1, 0));
        refuses("P27 the - is none", ARGUMENT, () -> x.slip(0, 0, 26));
        refuses("P27 -1 is none", ARGUMENT, () -> x.slip(0, 0, -1));
    }

    private static void slipOfAHyphen() {
        CountedRoom x = Rooms.pairs(9, 0, "abcd-ef gh");
        Rooms.castAll(x);
        same("P20 it says", "abcd-", Checks.said(x, 0));
        same("P27 the last letter", true, x.slip(0, 3, 0));
        refuses("P27 the - is no letter", ARGUMENT, () -> x.slip(0, 4, 0));
        same("P20 the - stays", "abca-", Checks.said(x, 0));
        same("P27 the first one behind a blank", true, x.slip(1, 2, 0));
        same("P20 it says", "ef ah", Checks.said(x, 1));
    }

    private static void slipOfThoseThatLieNowhere() {
        CountedRoom x = Rooms.pairs(9, 0, "ab cd ef");
        Rooms.castAll(x);
        x.pie(0);
        same("P27 a pied one", true, x.slip(0, 0, 25));
        same("P19 wrong", 1, x.slug(0, 8));
        same("P48 wrong ones that lie", 0, x.count(9));
        x.slip(1, 0, 25);
        same("P48 one lies", 1, x.count(9));
    }

    private static void read() {
        CountedRoom x = Rooms.pairs(9, 0, "ab cd ef");
        Rooms.castAll(x);
        same("P28 reader 0", true, x.read(0, 0));
        same("P28 it did", false, x.read(0, 0));
        same("P28 reader 1", true, x.read(1, 0));
        same("P28 it did, too", false, x.read(1, 0));
        same("P28 another one", true, x.read(1, 1));
        x.pie(1);
        same("P28 a pied one", true, x.read(0, 1));
        refuses("P28 reader 2", INDEX, () -> x.read(2, 0));
        refuses("P28 reader -1", INDEX, () -> x.read(-1, 0));
        refuses("P28 slug 2", INDEX, () -> x.read(0, 2));
        refuses("P28 slug -1", INDEX, () -> x.read(0, -1));
    }

    private static void proof() {
        CountedRoom x = Rooms.singles("aa bb cc dd ee ff gg hh ii jj");
        x.machine(40, 0);
        Rooms.castAll(x);
        same("P29 ten lie", 10, x.count(5));
        same("P29 none without a both", NONE, x.proof(3));
        for (int slug = 0; slug < 6; slug++) {
            x.read(0, slug);
        }
        same("P29 none still", NONE, x.proof(3));
        for (int slug = 4; slug < 9; slug++) {
            x.read(1, slug);
        }
        same("P29 A", 6, x.proof(0));
        same("P29 B", 5, x.proof(1));
        same("P29 BOTH", 2, x.proof(2));
        same("P29 4 times 3 by 2", 6, x.proof(3));
        x.pie(4);
        same("P29 A of those that lie", 5, x.proof(0));
        same("P29 B of those that lie", 4, x.proof(1));
        same("P29 BOTH of those that lie", 1, x.proof(2));
        same("P29 4 times 3", 12, x.proof(3));
        x.read(1, 0);
        x.read(1, 1);
        same("P29 2 times 3 by 3", 2, x.proof(3));
        x.read(1, 2);
        same("P29 1 times 3 by 4, rounded down", 0, x.proof(3));
        refuses("P29 what 6", NO_ELEMENT, () -> x.proof(6));
        refuses("P29 what -1", NO_ELEMENT, () -> x.proof(-1));
    }

    private static void proofOfWrongOnes() {
        CountedRoom x = Rooms.singles("aa bb cc dd ee ff gg hh");
        x.machine(40, 0);
        Rooms.castAll(x);
        for (int slug = 0; slug < 5; slug++) {
            x.slip(slug, 0, 25);
        }
        x.read(0, 0);
        x.read(1, 1);
        x.read(0, 5);
        x.read(1, 5);
        x.read(1, 6);
        same("P29 marked, and not wrong", 2, x.proof(4));
        same("P29 wrong, and not marked", 3, x.proof(5));
        x.pie(2);
        x.pie(6);
        same("P29 one of them lies nowhere", 1, x.proof(4));
        same("P29 one of those, too", 2, x.proof(5));
        x.slip(3, 0, 3);
        same("P29 one is right again", 1, x.proof(5));
        same("P48 wrong ones that lie", 3, x.count(9));
    }

    private static void carry() {
        CountedRoom x = Rooms.pairs(9, 0, "ab cd ef");
        x.minutes(3);
        x.give(0, 0);
        x.minutes(4);
        same("P19 cast in minute 4", 4, x.slug(0, 2));
        same("P30 one telling", 1, x.carry(0, 0, 4));
        same("P30 two", 2, x.carry(0, 9, 7));
        same("P30 the same again", 3, x.carry(0, 9, 7));
        refuses("P30 slug 2", INDEX, () -> x.carry(2, 99, 99));
        refuses("P30 slug -1", INDEX, () -> x.carry(-1, 0, 4));
        refuses("P30 rack 10", ARGUMENT, () -> x.carry(0, 10, 5));
        refuses("P30 rack -1", ARGUMENT, () -> x.carry(0, -1, 5));
        refuses("P30 ahead of its casting", ARGUMENT, () -> x.carry(0, 1, 3));
        refuses("P30 of the other one", ARGUMENT, () -> x.carry(1, 1, 4));
        refuses("P30 after now", ARGUMENT, () -> x.carry(0, 1, 8));
        x.pie(0);
        same("P30 a pied one", 4, x.carry(0, 1, 5));
        same("P48 tellings", 4, x.count(10));
    }

    private static void twoHundredTellings() {
        CountedRoom x = Rooms.pairs(9, 0, "ab cd ef");
        Rooms.castAll(x);
        for (int i = 1; i <= 200; i++) {
            same("P30 so many", i, x.carry(0, 3, 1));
        }
        same("P30 a 201st", NONE, x.carry(0, 4, 1));
        same("P31 it is not told", 3, x.where(0, 1, 2));
        refuses("P30 a wrong rack, ahead of that", ARGUMENT, () -> x.carry(0, 10, 1));
        refuses("P30 a slug that is none, ahead of that", INDEX, () -> x.carry(7, 1, 1));
        same("P48 200", 200, x.count(10));
    }

    private static void where() {
        CountedRoom x = Rooms.pairs(9, 0, "ab cd ef");
        Rooms.castAll(x);
        same("P31 none told", NONE, x.where(0, 600, 600));
        x.minutes(8);
        x.carry(0, 1, 5);
        x.minutes(5);
        x.carry(0, 2, 3);
        x.carry(0, 3, 9);
        x.carry(1, 7, 9);
        x.minutes(5);
        x.carry(0, 4, 5);
        x.carry(0, 3, 9);
        same("P31 now, as known now", 3, x.where(0, 20, 20));
        same("P31 at minute 9", 3, x.where(0, 9, 20));
        same("P31 of minute 5 two racks are told", NONE, x.where(0, 8, 20));
        same("P31 known ahead of the second of them", 1, x.where(0, 8, 19));
        same("P31 at minute 5 itself", 1, x.where(0, 5, 19));
        same("P31 at minute 4", 2, x.where(0, 4, 19));
        same("P31 at minute 3", 2, x.where(0, 3, 15));
        same("P31 at minute 3, not known yet", NONE, x.where(0, 3, 14));
        same("P31 at minute 20, as known at 14", 1, x.where(0, 20, 14));
        same("P31 at minute 20, as known at 10", 1, x.where(0, 20, 10));
        same("P31 at minute 20, as known at 9", NONE, x.where(0, 20, 9));
        same("P31 at minute 2", NONE, x.where(0, 2, 20));
        same("P31 the other one", 7, x.where(1, 20, 20));
        x.carry(0, 5, 5);
        same("P31 a third rack does not mend it", NONE, x.where(0, 8, 20));
        x.carry(0, 1, 5);
        same("P31 nor the first one again", NONE, x.where(0, 8, 20));
        same("P31 minutes far off", 3, x.where(0, Integer.MAX_VALUE, Integer.MAX_VALUE));
        same("P31 minutes far back", NONE, x.where(0, Integer.MIN_VALUE, Integer.MAX_VALUE));
        same("P31 known far back", NONE, x.where(0, Integer.MAX_VALUE, Integer.MIN_VALUE));
    }

    private static void whereRefuses() {
        CountedRoom x = Rooms.pairs(9, 0, "ab cd ef");
        Rooms.castAll(x);
        refuses("P31 slug 2", INDEX, () -> x.where(2, 0, 0));
        refuses("P31 slug -1", INDEX, () -> x.where(-1, 0, 0));
    }
}
