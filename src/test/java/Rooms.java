/** Rooms whose LINES are told at a glance. */
final class Rooms {
    private Rooms() {
    }

    /** Two WORDS of two letters make a LINE. */
    static CountedRoom pairs(int n, int back, String... copies) {
        CountedRoom x = new CountedRoom();
        Checks.style(x, 0, "measure 20; space 2 6");
        for (String copy : copies) {
            Checks.story(x, 0, 0, copy);
        }
        x.machine(n, back);
        return x;
    }

    /** Each WORD of two letters is a LINE of its own, for all letters are 5 wide, and nothing more fits in 10. */
    static CountedRoom singles(String... copies) {
        CountedRoom x = new CountedRoom();
        singles(x, copies);
        return x;
    }

    static void singles(CountedRoom x, String... copies) {
        for (int sign = 0; sign < 27; sign++) {
            x.width(0, sign, 5);
            x.width(1, sign, 5);
        }
        Checks.style(x, 0, "measure 10; space 1 40");
        for (String copy : copies) {
            Checks.story(x, 0, 0, copy);
        }
    }

    /** All PARTS that there are are given to the first MACHINE, and cast. */
    static void castAll(CountedRoom x) {
        for (int part = 0; part < 5 * x.count(1); part++) {
            try {
                x.give(part, 0);
            } catch (IndexOutOfBoundsException e) {
                continue;
            }
        }
        for (int i = 0; i < 300 && x.count(12) > 0; i++) {
            x.minutes(1);
        }
    }
}
