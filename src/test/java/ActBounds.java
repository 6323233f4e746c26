/** "3. ACTS": each sentence just inside its bounds and just outside. */
final class ActBounds extends Sentences {
    static void run() {
        whatIsLent();
        mayBe();
        endAndCoin();
        paidAndMoved();
        leaveAndFetch();
        deeds();
        bookings();
        tasks();
        toil();
        scars();
        heldAndMarked();
        loansEnd();
        handsGoBack();
    }

    private static void whatIsLent() {
        sentence("==== 3. ACTS. A LOAN of a HAND that is on a wrist to another PERSON for n HOURS (1 .. 99) at a price (0 .. 99):");
        LentHands x = people(3, 9999);
        x.leave(1, 0);
        due("in the office", x.lend(2, 0, 1, 0), NONE);
        x.fetch(1, 0);
        due("on a wrist", x.lend(2, 0, 1, 0), 1);
        due("to who has it", x.lend(2, 0, 1, 0), NONE);
        due("to who was born with it", x.lend(2, 1, 1, 0), 1);
        due("to himself", x.lend(2, 1, 1, 0), NONE);
        due("0 hours", x.lend(4, 0, 0, 0), NONE);
        due("100 hours", x.lend(4, 0, 100, 0), NONE);
        due("price -1", x.lend(4, 0, 1, -1), NONE);
        due("price 100", x.lend(4, 0, 1, 100), NONE);
        due("two loans alone", x.look(2), 2);
        due("99 hours at 99", x.lend(4, 0, 99, 99), 99);
        due("1 hour at 0", x.lend(5, 0, 1, 0), 1);
    }

    private static void mayBe() {
        sentence("it MAY be by the first line of LOANS whose B is so, or that has none (may: yes; bar: no); yes without one.");
        LentHands x = people(2, 100);
        due("no law", x.may(0, 1, 1, 0), 1);
        tell(x, 0, "bar when 1 = 2;");
        due("no line is so", x.may(0, 1, 1, 0), 1);
        tell(x, 0, "may when 1 = 2;");
        due("no line is so", x.may(0, 1, 1, 0), 1);
        tell(x, 0, "bar when 1 = 1; may;");
        due("the first is so", x.may(0, 1, 1, 0), 0);
        tell(x, 0, "bar when 1 = 2; may; bar;");
        due("the second has no B", x.may(0, 1, 1, 0), 1);
        tell(x, 0, times("bar when 1 = 2;", 15) + "may;");
        due("the 16th", x.may(0, 1, 1, 0), 1);
        tell(x, 0, times("may when 1 = 2;", 15) + "bar;");
        due("the 16th", x.may(0, 1, 1, 0), 0);
        tell(x, 0, "may when price = 1; bar when price < 3; may;");
        due("price 0", x.lend(0, 1, 1, 0), NONE);
        due("price 2", x.lend(0, 1, 1, 2), NONE);
        due("price 1", x.lend(0, 1, 1, 1), 1);
        due("price 3", x.lend(1, 1, 1, 3), 1);
    }

    private static void endAndCoin() {
        sentence("END: HOUR and n; it can't be, if that is above END of the HAND's latest LOAN,"
            + " if who borrows has less COIN than n times the price, or with 16 LOANS.");
        LentHands x = people(3, 0);
        x.hours(5);
        due("hour 5 and 9", x.lend(0, 1, 9, 0), 14);
        due("one above", x.lend(0, 2, 10, 0), NONE);
        due("the same", x.lend(0, 2, 9, 0), 14);
        due("below", x.lend(0, 1, 3, 0), 8);
        due("above the latest, not the others", x.lend(0, 2, 4, 0), NONE);
        due("the same as the latest", x.lend(0, 2, 3, 0), 8);
        due("another hand", x.lend(1, 2, 99, 0), 104);
        x = people(3, 0);
        x.lend(0, 1, 9, 0);
        x.lend(0, 2, 3, 0);
        x.hours(3);
        due("the latest has ended: above the one ahead", x.lend(0, 2, 7, 0), NONE);
        due("the same as the one ahead", x.lend(0, 2, 6, 0), 9);
        x.hours(6);
        due("both have ended", x.lend(0, 2, 99, 0), 108);

        x = people(2, 50);
        due("51 of 50", x.lend(0, 1, 17, 3), NONE);
        due("51 of 50", x.lend(0, 1, 51, 1), NONE);
        due("50 of 50", x.lend(0, 1, 10, 5), 10);
        due("of(1, 0)", x.of(1, 0), 0);
        due("1 of 0", x.lend(1, 1, 1, 1), NONE);
        due("0 of 0", x.lend(1, 1, 99, 0), 99);
        x = people(2, 9801);
        due("9801 of 9801", x.lend(0, 1, 99, 99), 99);
        x = people(2, 9800);
        due("9801 of 9800", x.lend(0, 1, 99, 99), NONE);

        x = people(3, 0);
        for (int i = 0; i < 15; i++) {
            due("loan " + i, x.lend(0, 1 - i % 2, 9 - i / 8, 0), 9 - i / 8);
        }
        due("the 16th", x.lend(5, 0, 1, 0), 1);
        due("the 17th", x.lend(3, 2, 1, 0), NONE);
        x.hours(1);
        due("after one has ended", x.lend(3, 2, 1, 0), 2);
        due("16 again", x.look(2), 16);
        // Of two BOOKINGS at 15 LOANS the first is the 16th.
        x = people(3, 0);
        for (int i = 0; i < 15; i++) {
            x.lend(0, 1 - i % 2, 9, 0);
        }
        tell(x, 3, "lend 3 to 0 at 0 for 5; lend 5 to 1 at 0 for 5;");
        due("one FAILED", x.hours(1), 1);
        due("the first was lent", x.at(3, 8), 0);
    }

    private static void paidAndMoved() {
        sentence("That goes from COIN of who borrows to that of who has the HAND (9999 at most; the rest is lost).");
        LentHands x = people(3, 100);
        x.set(0, 0, 9989);
        x.lend(0, 1, 5, 2);
        due("9999 exactly", x.of(0, 0), 9999);
        due("paid", x.of(1, 0), 90);
        x.lend(1, 1, 1, 1);
        due("one is lost", x.of(0, 0), 9999);
        due("paid", x.of(1, 0), 89);
        x.lend(0, 2, 3, 7);
        due("he who has it gets it", x.of(1, 0), 110);
        due("he who was born with it does not", x.of(0, 0), 9999);
        due("paid", x.of(2, 0), 79);
        x = people(2, 9999);
        x.lend(0, 1, 99, 99);
        due("9801 lost", x.of(0, 0), 9999);
        due("198 left", x.of(1, 0), 198);

        sentence("What who borrows has on that wrist goes to the OFFICE (HELD 0); the HAND is on his wrist (HELD 0).");
        x = people(3, 0);
        x.hours(4);
        x.lend(0, 1, 9, 0);
        due("his own", x.at(2, 8), NONE);
        due("not held", x.at(2, 7), 0);
        due("the hand", x.at(0, 8), 1);
        due("not held yet", x.at(0, 7), 0);
        due("the other wrist as it was", x.at(3, 8), 1);
        due("held as it was", x.at(3, 7), 4);
        x.hours(1);
        x.lend(4, 1, 9, 0);
        due("what is not his goes, too", x.at(0, 8), NONE);
        due("not held", x.at(0, 7), 0);
        due("his own stays there", x.at(2, 8), NONE);
        x.lend(5, 0, 9, 0);
        x.lend(4, 2, 9, 0);
        due("an empty wrist takes it, too", x.of(2, 4), 4);
        due("none more in the office", x.look(11), 0b000111);
    }

    private static void leaveAndFetch() {
        sentence("To LEAVE: what one has on a wrist, being born with it, goes to the OFFICE (HELD 0).");
        LentHands x = people(2, 0);
        x.hours(3);
        due("his own", x.leave(0, 1), true);
        due("in the office", x.at(1, 8), NONE);
        due("not held", x.at(1, 7), 0);
        due("nothing there", x.leave(0, 1), false);
        x.lend(0, 1, 9, 0);
        due("not born with it", x.leave(1, 0), false);
        due("still there", x.at(0, 8), 1);
        due("lent away", x.leave(0, 0), false);
        x.lend(0, 0, 9, 0);
        due("his own, lent to him", x.leave(0, 0), true);

        sentence("To FETCH: the HAND that he was born with comes from the OFFICE to his empty wrist (HELD 0).");
        x = people(3, 0);
        x.leave(0, 0);
        x.hours(2);
        due("it comes", x.fetch(0, 0), true);
        due("on his wrist", x.of(0, 4), 0);
        due("not held yet", x.at(0, 7), 0);
        due("it is there", x.fetch(0, 0), false);
        x.leave(0, 0);
        x.lend(2, 0, 9, 0);
        due("his wrist is not empty", x.fetch(0, 0), false);
        due("on another's wrist, not in the office", x.fetch(1, 0), false);
        x.lend(2, 2, 9, 0);
        due("empty again", x.fetch(0, 0), true);
        // A side beside the two does not reach the next one's wrist.
        x = people(3, 0);
        x.leave(0, 1);
        x.leave(1, 0);
        due("side 2 of 0", x.fetch(0, 2), false);
        due("side -1 of 1", x.fetch(1, -1), false);
        due("nothing came", x.look(11), 0b000110);

        sentence("A TASK is told, or none.");
        x = people(1, 0);
        tell(x, 1, "pay 1;");
        x.hours(1);
        due("none", x.of(0, 0), 0);
        x.task(0, 0);
        x.hours(1);
        due("both hands", x.of(0, 0), 2);
        x.task(0, NONE);
        x.hours(1);
        due("none again", x.of(0, 0), 2);
    }

    private static void deeds() {
        sentence("A DEED of a PERSON with what he has on a wrist:"
            + " whose it is by the first line of GUILT whose B is so, or that has none (head without one):");
        LentHands x = people(2, 0);
        due("no law", x.deed(0, 0), 1);
        tell(x, 2, "hand when 1 = 2; both when 2 = 1;");
        due("no line is so", x.deed(0, 0), 1);
        tell(x, 2, "none when 1 = 2; both when 1 = 1; hand;");
        due("the second", x.deed(0, 0), 2);
        tell(x, 2, times("none when 1 = 2;", 15) + "hand;");
        due("the 16th has no B", x.deed(0, 0), 0);
        tell(x, 2, "hand when held = 1; none;");
        due("held 0", x.deed(0, 0), 3);
        x.hours(1);
        due("held 1", x.deed(0, 0), 0);
        x.hours(1);
        due("held 2", x.deed(0, 0), 3);
        x.leave(0, 0);
        due("nothing there", x.deed(0, 0), NONE);
        due("seven lines", x.look(3), 7);

        sentence("hand: GUILT of who was born with it is one more; head: his; both; none.");
        x = people(3, 0);
        x.lend(0, 1, 9, 0);
        String[] words = {"hand", "head", "both", "none"};
        int[][] guilt = {{1, 0}, {1, 1}, {2, 2}, {2, 2}};
        for (int i = 0; i < 4; i++) {
            tell(x, 2, words[i] + ";");
            due(words[i], x.deed(1, 0), i);
            due("guilt of 0 by " + words[i], x.of(0, 3), guilt[i][0]);
            due("guilt of 1 by " + words[i], x.of(1, 3), guilt[i][1]);
        }
        int[] own = {1, 2, 4, 4};
        for (int i = 0; i < 4; i++) {
            tell(x, 2, words[i] + ";");
            x.deed(2, 0);
            due("guilt of 2 by his own, " + words[i], x.of(2, 3), own[i]);
        }

        sentence("THE BOOK (100 lines; no more then): HOUR, HAND, PERSON, whose (0 hand, 1 head, 2 both, 3 none).");
        x = people(4, 0);
        for (int i = 0; i < 100; i++) {
            if (i % 25 == 0) {
                tell(x, 2, words[i / 25] + ";");
            }
            due("deed " + i, x.deed(i % 3, i / 50), i / 25);
        }
        due("100 lines", x.look(3), 100);
        for (int i = 0; i < 100; i++) {
            int[] want = {0, 2 * (i % 3) + i / 50, i % 3, i / 25};
            for (int what = i % 24 == 3 ? 0 : 3; what < 4; what++) {
                due("book(" + i + ", " + what + ")", x.book(i, what), want[what]);
            }
        }
        x.hours(1);
        tell(x, 2, "hand;");
        due("the 101st is one, too", x.deed(3, 0), 0);
        due("guilt", x.of(3, 3), 1);
        due("no more lines", x.look(3), 100);
        due("book(100, 0)", x.book(100, 0), NONE);
        due("book(99, 0)", x.book(99, 0), 0);
        due("book(0, 0)", x.book(0, 0), 0);
    }

    private static void bookings() {
        sentence("An HOUR. (a) BOOKING by BOOKING told AT this HOUR: the LOAN, if it can be; else it FAILED.");
        LentHands x = people(3, 4);
        tell(x, 3, "lend 0 to 1 at 0 for 9; lend 2 to 0 at 2 for 3; lend 1 to 2 at 2 for 2 price 2; lend 1 to 0 at 2 for 1 price 3;"
            + "lend 5 to 0 at 2 for 1 price 5; lend 4 to 0 at 9998 for 1; lend 4 to 0 at 9999 for 1;");
        due("not yet", x.at(0, 8), 0);
        due("hour 0", x.hours(1), 0);
        due("told at 0", x.at(0, 8), 1);
        due("hour 1", x.hours(1), 0);
        due("1 ahead", x.at(1, 8), 0);
        due("hour 2: hand 2 is in the office, 8 and then 1 were wanted", x.hours(1), 2);
        due("lent on at once, ended at once", x.at(1, 8), 2);
        due("END counted from 2", x.loan(1, 3), 4);
        due("paid and paid back", x.of(2, 0), 3);
        due("hour 3: none is told again", x.hours(1), 0);
        for (int i = 0; i < 99; i++) {
            x.hours(100);
        }
        due("up to 9998", x.hours(94), 0);
        due("look(1)", x.look(1), 9998);
        due("not lent", x.look(2), 0);
        due("hour 9998", x.hours(1), 0);
        due("marked by 0", x.at(4, 6), 0b101);
        // Sixteen at once, none of which can be.
        x = people(1, 0);
        tell(x, 3, times("lend 0 to 0 at 1 for 1;", 16));
        due("none told at 0", x.hours(1), 0);
        due("all FAILED", x.hours(1), 16);
        due("none told at 2", x.hours(1), 0);
    }

    private static void tasks() {
        sentence("(b) PERSON by PERSON with a TASK: left, then right, what he has on that wrist:");
        LentHands x = people(4, 0);
        tell(x, 1, "wear 1; pay 1; scar 500;");
        x.task(1, 0);
        x.task(3, 0);
        x.lend(1, 3, 9, 0);
        x.leave(3, 0);
        x.hours(1);
        long draws = 0;
        int[] toiled = {2, 3, 1};
        for (int hand : toiled) {
            draws = 1664525L * draws + 1013904223L & 0xffffffffL;
            due("scar of " + hand, x.at(hand, 5), draws / 256 % 1000 < 500 ? 1 : 0);
            due("wear of " + hand, x.at(hand, 4), 1);
        }
        due("three draws", x.look(4), (int) draws);
        for (int hand : new int[] {0, 4, 5, 6, 7}) {
            due("wear of " + hand + ", by none or in the office", x.at(hand, 4), 0);
        }
        due("two hands", x.of(1, 0), 2);
        due("one, of another", x.of(3, 0), 1);
        due("not who was born with it", x.of(0, 0), 0);

        sentence("by HANDS (each the first line with that word whose B is so, or that has none; 0 without one;"
            + " all asked ahead of what they change):");
        x = people(1, 0);
        x.leave(0, 1);
        x.task(0, 2);
        tell(x, 1, "pay 5 when 1 = 2; wear 7 when 1 = 2; pay 4; pay 3; learn 2 when 1 = 2;");
        x.hours(1);
        due("the second of pay", x.of(0, 0), 4);
        due("no wear is so", x.at(0, 4), 0);
        due("no learn is so", x.at(0, 2), 0);
        due("no scar", x.look(4), 0);
        tell(x, 1, "wear 1; learn 1; pay worn + skill; scar 1000 * worn + 1000 * skill;");
        x.hours(1);
        due("pay ahead of wear and learn", x.of(0, 0), 4);
        due("scar ahead of wear and learn", x.look(4), 0);
        tell(x, 1, "learn worn; wear skill;");
        x.hours(1);
        due("learn ahead", x.at(0, 2), 2);
        due("wear ahead", x.at(0, 4), 2);
        tell(x, 1, times("learn 1 when 1 = 2;", 15) + "learn 7;");
        x.hours(1);
        due("the 16th", x.at(0, 2), 9);
    }

    private static void toil() {
        sentence("learn, held to 0 .. 9: SKILL of that KIND more (99 at most), wear, held to 0 .. 9: WEAR more (99 at most),"
            + " pay, held to 0 .. 99: COIN more (9999 at most),");
        more("learn", 9, 99, 2 + 1, 1);
        more("wear", 9, 99, 6, 4);
        more("pay", 99, 9999, 0, 0);
    }

    /** From 0 and from just below the most; set() tells it by one number, at() or of() answers it by another. */
    private static void more(String word, int held, int most, int told, int asked) {
        LentHands x = people(1, 0);
        x.leave(0, 1);
        x.task(0, 1);
        String[] e = {"0 - 1", "0", "1", "" + held, "" + (held + 1), "9999", "9999 * 9999 * 22"};
        int[] want = {0, 0, 1, held, held, held, 0};
        for (int i = 0; i < e.length; i++) {
            tell(x, 1, word + " " + e[i] + ";");
            x.set(told, 0, 0);
            x.hours(1);
            due(word + " " + e[i], word.equals("pay") ? x.of(0, asked) : x.at(0, asked), want[i]);
        }
        tell(x, 1, word + " " + held + ";");
        for (int below = 0; below < 3; below++) {
            x.set(told, 0, most - held - 1 + below);
            x.hours(1);
            int got = word.equals("pay") ? x.of(0, asked) : x.at(0, asked);
            due(word + " from " + (most - held - 1 + below), got, below == 0 ? most - 1 : most);
        }
        x.set(told, 0, most);
        x.hours(1);
        due(word + " from the most", word.equals("pay") ? x.of(0, asked) : x.at(0, asked), most);
        due("no other skill", x.at(0, 0) + x.at(0, 2) + x.at(0, 3), 0);
    }

    private static void scars() {
        sentence("scar, held to 0 .. 1000: if above 0, a DRAW of 1000: below it SCARS are one more (9 at most).");
        // By 0 the DRAW is 563, by 457 it is 0, by 1188 it is 999.
        scar("0 - 1", 0, 0, 0, 0);
        scar("0", 0, 0, 0, 0);
        scar("1", 0, 1013904223, 0, 0);
        scar("1", 457, 1774592148, 0, 1);
        scar("1", 945, -1708086948, 0, 0);
        scar("2", 945, -1708086948, 0, 1);
        scar("563", 0, 1013904223, 0, 0);
        scar("564", 0, 1013904223, 0, 1);
        scar("999", 1188, -1303607373, 0, 0);
        scar("1000", 1188, -1303607373, 0, 1);
        scar("1001", 1188, -1303607373, 0, 1);
        scar("9999", 1188, -1303607373, 0, 1);
        scar("1000", 0, 1013904223, 8, 9);
        scar("1000", 0, 1013904223, 9, 9);
        LentHands x = people(1, 0);
        String[] e = {"0 - 1", "0", "1", "999", "1000", "1001", "9999"};
        int[] safe = {1000000, 1000000, 999000, 1000, 0, 0, 0};
        for (int i = 0; i < e.length; i++) {
            tell(x, 1, "scar " + e[i] + ";");
            due("not scarred by " + e[i], x.safe(0, 0, 1), safe[i]);
        }
    }

    private static void scar(String e, int state, int after, int had, int want) {
        LentHands x = people(1, 0);
        x.leave(0, 0);
        x.set(7, 1, had);
        x.task(0, 3);
        x.state(state);
        tell(x, 1, "scar " + e + ";");
        x.hours(1);
        due("scars by scar " + e + " from " + state, x.at(1, 5), want);
        due("STATE by scar " + e + " from " + state, x.look(4), after);
        due("none in the office", x.at(0, 5), 0);
    }

    private static void heldAndMarked() {
        sentence("(c) Each HAND on a wrist: HELD one more, that PERSON is in its MARKS.");
        LentHands x = people(8, 0);
        x.leave(0, 0);
        x.lend(3, 7, 9, 0);
        x.hours(1);
        due("the office does not hold", x.at(0, 7), 0);
        due("nor mark", x.at(0, 6), 0);
        due("the office does not hold", x.at(15, 7), 0);
        due("held by 7", x.at(3, 7), 1);
        due("marked by 7", x.at(3, 6), 128);
        due("held by 6", x.at(13, 7), 1);
        due("marked by 6", x.at(13, 6), 64);
        x.lend(3, 0, 8, 0);
        x.hours(1);
        due("marked by both", x.at(3, 6), 129);
        due("held by 0 alone", x.at(3, 7), 1);
        // Who borrows in the same HOUR marks it, who had it till then does not.
        x = people(2, 0);
        tell(x, 3, "lend 0 to 1 at 0 for 1;");
        x.hours(1);
        due("home already", x.at(0, 8), 0);
        due("marked by 1 alone", x.at(0, 6), 2);
        due("put there anew", x.at(0, 7), 0);
    }

    private static void loansEnd() {
        sentence("(d) HOUR is one more. LOANS with END this HOUR or ahead of it end, the latest first:");
        LentHands x = people(3, 0);
        x.lend(0, 1, 2, 0);
        x.lend(3, 0, 1, 0);
        x.hours(1);
        due("look(1)", x.look(1), 1);
        due("END 1 has ended", x.at(3, 8), 1);
        due("END 2 has not", x.at(0, 8), 1);
        due("one stands", x.look(2), 1);
        x.hours(1);
        due("END 2 has ended", x.at(0, 8), 0);
        due("none stands", x.look(2), 0);
        // A whole chain in one HOUR: by the eldest first the HAND would stay with a borrower.
        x = people(4, 0);
        x.lend(1, 1, 2, 0);
        x.lend(1, 2, 2, 0);
        x.lend(1, 3, 2, 0);
        x.hours(2);
        due("home", x.at(1, 8), 0);
        due("all own hands", x.look(11), 0);
        due("none stands", x.look(2), 0);
        // The first HOUR of a chain alone.
        x = people(3, 0);
        x.lend(1, 1, 3, 0);
        x.lend(1, 2, 1, 0);
        x.hours(1);
        due("back one step", x.at(1, 8), 1);
        due("the other stands", x.loan(0, 3), 3);
    }

    private static void handsGoBack() {
        sentence("the HAND is taken from where it is, then it goes to the wrist of FROM, if that is empty, else to the OFFICE (HELD 0);");
        LentHands x = people(4, 0);
        x.lend(0, 1, 3, 0);
        x.hours(2);
        due("held by 1", x.at(0, 7), 2);
        x.hours(1);
        due("to the empty wrist", x.at(0, 8), 0);
        due("not held yet", x.at(0, 7), 0);
        x.lend(0, 1, 3, 0);
        x.lend(4, 0, 9, 0);
        x.hours(3);
        due("not empty: the office", x.at(0, 8), NONE);
        due("not held", x.at(0, 7), 0);
        due("who is there stays", x.of(0, 4), 4);
        due("and is held on", x.at(4, 7), 3);
        x.hours(6);
        due("it comes when that one goes", x.at(0, 8), 0);
        // From the OFFICE, whither a later LOAN has sent it, and from a wrist at home.
        x = people(4, 0);
        x.lend(0, 1, 3, 0);
        x.lend(4, 1, 9, 0);
        due("in the office", x.at(0, 8), NONE);
        x.hours(3);
        due("from the office to FROM", x.at(0, 8), 0);
        due("who is there stays", x.of(1, 4), 4);
        x.lend(0, 3, 3, 0);
        x.lend(4, 3, 6, 0);
        x.fetch(0, 0);
        x.hours(2);
        due("fetched home", x.at(0, 7), 2);
        x.hours(1);
        due("taken, and put there again", x.at(0, 8), 0);
        due("held anew", x.at(0, 7), 0);

        sentence("then, if the wrist of TO of that side is empty, and the HAND that he was born with for it is in the OFFICE,"
            + " it comes to it (HELD 0). The others keep their order.");
        x = people(4, 0);
        x.hours(2);
        x.lend(0, 1, 2, 0);
        x.hours(2);
        due("his own comes", x.at(2, 8), 1);
        due("not held yet", x.at(2, 7), 0);
        x.lend(0, 1, 2, 0);
        x.lend(4, 1, 9, 0);
        x.hours(2);
        due("not empty: it stays", x.at(2, 8), NONE);
        x = people(4, 0);
        x.lend(2, 2, 9, 0);
        x.lend(0, 1, 2, 0);
        x.hours(2);
        due("empty", x.of(1, 4), NONE);
        due("but his own is on another's wrist", x.at(2, 8), 2);
        due("that of the other side is not asked", x.at(3, 8), 1);
        x.leave(3, 0);
        x.leave(3, 1);
        x.lend(1, 3, 1, 0);
        x.hours(1);
        due("that side alone", x.at(7, 8), 3);
        due("not the other", x.at(6, 8), NONE);
        // Five LOANS, of which the second and the fourth end.
        x = people(6, 0);
        int[] ends = {9, 1, 8, 1, 7};
        for (int i = 0; i < 5; i++) {
            x.lend(2 * i + i % 2, 5, ends[i], 0);
        }
        x.hours(1);
        due("three stand", x.look(2), 3);
        due("the first", x.loan(0, 3), 9);
        due("the third", x.loan(1, 3), 8);
        due("the fifth", x.loan(2, 3), 7);
        due("its hand", x.loan(2, 0), 8);
    }
}
