/** One night in the room; each line that shows an answer tells behind it what it shows. */
public final class Night {
    public static void main(String[] args) {
        LeadRoom room = new LeadRoom();

        // RULES, in force from minute 0 on: LINES 48 wide, 5 for a letter, PAGE 0 is closed at minute 5
        tell(room, "measure 48; space 2 9; pay 5; free if corrected; close 0 at 5");
        show(room.style(0));                        // 5: so many RULES
        tell(room, "meesure 48");
        try {
            room.style(0);
        } catch (IllegalArgumentException e) {
            show(room.fault());                     // 0: the first wrong byte
        }

        // STORY 0 of two PARTS, 0 and 1; it is of FACE 0, and due in minute 4
        tell(room, "the night is long and the news is short / bright morn-ing");
        show(room.story(0, 4));                     // 0: its number
        show(room.part(1, 1));                      // 3: PIECES of PART 1
        show(room.best(0, 0));                      // 3: LINES of PART 0, if it were SET now
        show(room.best(0, 1));                      // 32: their BADNESS

        // a MACHINE with 9 BRASSES of each SIGN, which come back 2 minutes later
        show(room.machine(9, 2));                   // 0: its number
        show(room.give(0, 0));                      // 1: JOBS in its QUEUE
        show(room.least());                         // 1: PART 1 would come a minute late
        show(room.give(1, 0));                      // 2
        show(room.ahead(LeadRoom.NONE));            // 5: the minute at whose end all is cast
        show(room.ahead(0));                        // -1: never without this MACHINE
        show(room.minutes(5));                      // 5: NOW
        show(said(room, 0));                        // the night is
        show(said(room, 1));                        // long and the
        show(said(room, 4));                        // ing
        show(room.row(3, 0));                       // 3: the SLUG that was cast in minute 4

        // a wrong letter, found by both readers; the SLUG is spilled, and its LINE cast again
        show(room.slip(1, 0, 'g' - 'a'));           // true: it was another one
        show(said(room, 1));                        // gong and the
        show(room.judge(0));                        // 1: the first PLACE that is not RIGHT
        show(room.read(0, 1));                      // true
        show(room.read(1, 1));                      // true
        show(room.proof(3));                        // 0: MISSED
        show(room.pie(1));                          // true
        show(room.again(0, 1, 0));                  // 1: JOBS in the QUEUE
        show(room.minutes(1));                      // 6: NOW
        show(room.lies(0, 1));                      // 5: the SLUG at PLACE 1 of PART 0

        // a WORD becomes another one: just the LINE of it breaks otherwise
        tell(room, "dark");
        show(room.correct(0, 3, 0));                // 1: so many LINES are to be cast
        show(room.minutes(1));                      // 7
        show(said(room, 6));                        // dark and the
        show(room.carry(6, 3, 7));                  // 1: tellings of CARRIERS
        show(room.where(6, 9, 9));                  // 3: the RACK

        // PAGE 0 has 2 COLUMNS of 4 LINES; STORY 0 (bit 0) does not fit with all that it has
        room.page(0, 2, 4);
        show(room.fit(0, 1));                       // 3: LINES kept
        show(room.lock(0, 1));                      // 3: SLUGS on the PAGE
        show(room.locked(0, 2));                    // 2: minutes late
        show(room.edition());                       // 0: its number
        show(room.stands(0, 0, 1));                 // 6: SLUG 1 of PAGE 0, as EDITION 0 has it

        // what is paid, a number that is torn, and THE IMAGE
        show(room.pay(0, 0, 600));                  // 27: 55 letters times 5, by 10
        room.image();
        show(room.tear(0, 0, 4));                   // 4: it was 0
        show(room.check());                         // 0: ROW 0, MACHINE 0
        show(room.back());                          // true
        show(room.check());                         // -1: all is as it was
    }

    /** Puts a text on the TAPE, which is empty: five numbers bear twenty bytes, the highest first. */
    static void tell(LeadRoom room, String text) {
        for (int i = 0; i < text.length(); i += 20) {
            int[] five = new int[5];
            for (int k = 0; k < 20 && i + k < text.length(); k++) {
                five[k / 4] |= text.charAt(i + k) << 24 - 8 * (k % 4);
            }
            room.feed(five[0], five[1], five[2], five[3], five[4]);
        }
        room.end(text.length());
    }

    static String said(LeadRoom room, int slug) {
        StringBuilder text = new StringBuilder();
        for (int i = 0; room.says(slug, i) != LeadRoom.NONE; i++) {
            text.append((char) room.says(slug, i));
        }
        return text.toString();
    }

    static void show(Object answer) {
        System.out.println(answer);
    }
}
