/** "4. IN THOUGHT": each sentence just inside its bounds and just outside. */
final class ThoughtBounds extends Sentences {
    static void run() {
        nothingStays();
        works();
        pay();
        back();
        where();
        fails();
        rings();
        marks();
        learns();
        safe();
        finds();
        dear();
        wishes();
        spread();
        out();
        judged();
        premium();
        chains();
        callus();
        turns();
    }

    private static void nothingStays() {
        sentence("==== 4. IN THOUGHT (nothing of it stays; no DRAWS: no scars).");
        LentHands x = people(2, 50);
        tell(x, 0, "bar when scars > 0;");
        tell(x, 1, "scar 1000; learn 3; wear 2; pay 1;");
        tell(x, 2, "both when held > 3;");
        tell(x, 3, "lend 0 to 1 at 4 for 5 price 1; lend 3 to 0 at 6 for 2;");
        tell(x, 4, "work 0 needs 0 pays 5; work 1 needs 1 pays 5 both;");
        x.task(0, 1);
        x.task(1, 0);
        x.leave(1, 1);
        String ahead = all(x);
        due("hand 0 can be lent at 4, not scarred", x.where(0, 5), 1);
        due("home at 9", x.where(0, 9), 0);
        due("back", x.back(), NONE);
        due("the second booking", x.fails(0), 1);
        due("out", x.out(5), 0b1101);
        due("learns", x.learns(0, 1, 3), 9);
        due("safe", x.safe(0, 1, 3), 0);
        due("premium", x.premium(0, 2), 3000000);
        due("wishes", x.wishes(0, 0, 0), 0);
        due("wishes", x.wishes(1, 1, 0), NO);
        due("pay", x.pay(0), 5);
        due("finds", x.finds(1, 0, 0, 1), 0);
        due("dear", x.dear(0, 1, 1), 50);
        due("loophole", x.loophole(0, 0), 4);
        due("judged", x.judged(0, 0, 4), 2);
        due("may", x.may(0, 1, 1, 1), 1);
        due("all is as it was", all(x).equals(ahead), true);
        due("three can be undone still", x.look(10), 3);
        // In each way of looking ahead no scar comes, by which the LAW would bar the BOOKING.
        x = people(2, 0);
        tell(x, 0, "bar when scars > 0;");
        tell(x, 1, "scar 1000;");
        tell(x, 3, "lend 3 to 0 at 2 for 4;");
        x.lend(0, 1, 3, 0);
        x.task(1, 0);
        due("back", x.back(), 6);
        due("where", x.where(3, 3), 0);
        due("out", x.out(3), 0b1010);
        due("fails", x.fails(0), NONE);
        due("no draw", x.look(4), 0);
        due("but then it is scarred", x.hours(3), 1);
    }

    /** All that is told by what asks about two PEOPLE, in some 110 calls. */
    private static String all(LentHands x) {
        StringBuilder s = new StringBuilder();
        for (int what = 0; what < 12; what++) {
            s.append(x.look(what)).append(' ');
        }
        for (int p = 0; p < 2; p++) {
            for (int what = 0; what < 6; what++) {
                s.append(x.of(p, what)).append(' ');
            }
        }
        for (int hand = 0; hand < 4; hand++) {
            for (int what = 0; what < 11; what++) {
                s.append(x.at(hand, what)).append(' ');
            }
        }
        return s.toString();
    }

    private static void works() {
        sentence("CAN a PERSON do a WORK now: with a HAND on a wrist of his that has that SKILL at least (both: with both).");
        LentHands x = people(3, 0);
        x.set(2 + 3, 0, 50);
        x.set(2 + 3, 1, 40);
        tell(x, 4, "work 3 needs 50 pays 1; work 3 needs 51 pays 1; work 3 needs 40 pays 1 both; work 3 needs 41 pays 1 both;"
            + "work 2 needs 0 pays 1 both; work 2 needs 1 pays 1; work 3 needs 40 pays 1;");
        cans(x, 0, 1, 0, 1, 0, 1, 0, 1);
        cans(x, 1, 0, 0, 0, 0, 1, 0, 0);
        x.lend(0, 1, 9, 0);
        cans(x, 0, 0, 0, 0, 0, 0, 0, 1);
        cans(x, 1, 1, 0, 0, 0, 1, 0, 1);
        x.lend(1, 1, 9, 0);
        cans(x, 0, 0, 0, 0, 0, 0, 0, 0);
        cans(x, 1, 1, 0, 1, 0, 1, 0, 1);
        x.lend(4, 1, 9, 0);
        due("not with one in the office", x.can(1, 0), 0);
    }

    private static void cans(LentHands x, int person, int... want) {
        for (int i = 0; i < want.length; i++) {
            due("can(" + person + ", " + i + ")", x.can(person, i), want[i]);
        }
    }

    /** Who does the WORKS in the way that pays so much. */
    private static void paid(LentHands x, int sum, int... who) {
        due("pay(0)", x.pay(0), sum);
        for (int i = 0; i < who.length; i++) {
            due("pay(" + (10 + i) + ")", x.pay(10 + i), who[i]);
        }
        due("no further work", x.pay(10 + who.length), NONE);
    }

    private static void pay() {
        sentence("PAY: each PERSON does one WORK at most, each WORK one PERSON at most: the most that is paid; who does WORK i:"
            + " of several ways the first (WORK by WORK, none ahead of all, then the lesser PERSON).");
        LentHands x = people(1, 0);
        paid(x, 0);
        tell(x, 4, "work 0 needs 0 pays 5; work 0 needs 0 pays 9;");
        paid(x, 9, NONE, 0);
        tell(x, 4, "work 0 needs 0 pays 9; work 0 needs 0 pays 9;");
        paid(x, 9, NONE, 0);
        tell(x, 4, "work 0 needs 0 pays 0;");
        paid(x, 0, NONE);
        tell(x, 4, "work 0 needs 1 pays 9;");
        paid(x, 0, NONE);
        x = people(3, 0);
        tell(x, 4, "work 0 needs 0 pays 5;");
        paid(x, 5, 0);
        x.set(2, 3, 50);
        x.set(2, 5, 50);
        tell(x, 4, "work 0 needs 50 pays 5;");
        paid(x, 5, 1);
        // The greater pay first would leave the second undone.
        x = people(2, 0);
        x.set(2, 0, 50);
        tell(x, 4, "work 0 needs 0 pays 9; work 0 needs 50 pays 8;");
        paid(x, 17, 1, 0);
        x.set(3, 2, 50);
        tell(x, 4, "work 0 needs 50 pays 3; work 1 needs 50 pays 3; work 2 needs 0 pays 3; work 3 needs 0 pays 3;");
        paid(x, 6, NONE, NONE, 0, 1);
        tell(x, 4, "work 2 needs 0 pays 4; work 0 needs 50 pays 3; work 2 needs 0 pays 3;");
        paid(x, 7, 0, NONE, 1);
        tell(x, 4, "work 2 needs 0 pays 4; work 0 needs 50 pays 3; work 2 needs 0 pays 2;");
        paid(x, 7, 1, 0, NONE);
        x = people(8, 0);
        tell(x, 4, times("work 0 needs 0 pays 99;", 8));
        paid(x, 792, 0, 1, 2, 3, 4, 5, 6, 7);
        x.set(2, 0, 1);
        x.set(2, 14, 1);
        tell(x, 4, times("work 0 needs 0 pays 99;", 6) + times("work 0 needs 1 pays 99;", 2));
        paid(x, 792, 1, 2, 3, 4, 5, 6, 0, 7);
        due("pay(9)", x.pay(9), NONE);
        due("pay(1)", x.pay(1), NONE);
    }

    private static void back() {
        sentence("BACK: the first HOUR from now on (300 more at most) at which each HAND is on the wrist of who was born with it,"
            + " if HOURS go by with BOOKINGS and TASKS.");
        LentHands x = people(3, 0);
        x.hours(4);
        due("now", x.back(), 4);
        x.lend(0, 1, 1, 0);
        due("1 more", x.back(), 5);
        x.hours(1);
        due("now", x.back(), 5);
        // What 1 leaves comes to him when a LOAN to him ends: at 300, or one HOUR later.
        x = people(2, 0);
        x.leave(1, 0);
        due("never", x.back(), NONE);
        tell(x, 3, "lend 0 to 1 at 298 for 1;");
        due("299 more", x.back(), 299);
        tell(x, 3, "lend 0 to 1 at 299 for 1;");
        due("300 more", x.back(), 300);
        tell(x, 3, "lend 0 to 1 at 300 for 1;");
        due("301 more", x.back(), NONE);
        x.hours(1);
        due("300 more from 1 on", x.back(), 301);
        // The first such HOUR, not a later one; and by what TASKS pay.
        x = people(2, 0);
        tell(x, 3, "lend 0 to 1 at 9 for 3;");
        x.lend(0, 1, 7, 0);
        due("between two loans", x.back(), 7);
        tell(x, 1, "pay 1;");
        tell(x, 3, "lend 1 to 1 at 6 for 9 price 2;");
        x.task(1, 0);
        due("12 are too few for the booking", x.back(), 7);
        tell(x, 1, "pay 2;");
        due("24 are not: the right one is out till then", x.back(), 15);
    }

    private static void where() {
        sentence("WHERE a HAND is n (0 .. 300) HOURS from now.");
        LentHands x = people(3, 0);
        x.leave(1, 0);
        tell(x, 3, "lend 0 to 1 at 299 for 1;");
        due("-1", x.where(2, -1), NO);
        due("0", x.where(2, 0), NONE);
        due("299", x.where(2, 299), NONE);
        due("the other at 299", x.where(0, 299), 0);
        due("300", x.where(2, 300), 1);
        due("301", x.where(2, 301), NO);
        tell(x, 3, "lend 0 to 1 at 299 for 2;");
        due("the other at 300", x.where(0, 300), 1);
        tell(x, 3, "lend 0 to 2 at 1 for 2;");
        due("0", x.where(0, 0), 0);
        due("1", x.where(0, 1), 0);
        due("2", x.where(0, 2), 2);
        due("3", x.where(0, 3), 0);
        x.hours(2);
        due("0 from 2 on", x.where(0, 0), 2);
        due("1 from 2 on", x.where(0, 1), 0);
    }

    private static void fails() {
        sentence("FIRST that FAILS: the first BOOKING (by the HOUR, then its number) that will fail within 300 HOURS.");
        LentHands x = people(2, 0);
        failing(x, "", NONE, NONE);
        failing(x, "lend 0 to 0 at 299 for 1;", 0, 299);
        failing(x, "lend 0 to 0 at 300 for 1;", NONE, NONE);
        failing(x, "lend 0 to 0 at 0 for 1;", 0, 0);
        failing(x, "lend 0 to 1 at 0 for 1;", NONE, NONE);
        failing(x, "lend 0 to 0 at 7 for 1; lend 0 to 0 at 6 for 1;", 1, 6);
        failing(x, "lend 0 to 1 at 6 for 1; lend 0 to 0 at 6 for 1; lend 0 to 0 at 6 for 1;", 2, 6);
        failing(x, "lend 0 to 1 at 6 for 1; lend 0 to 1 at 6 for 1; lend 0 to 0 at 6 for 2;", 1, 6);
        failing(x, "lend 0 to 0 at 9 for 1;" + times("lend 0 to 0 at 8 for 1;", 14) + "lend 0 to 0 at 7 for 1;", 15, 7);
        x.hours(1);
        failing(x, "lend 0 to 0 at 0 for 1;", NONE, NONE);
        failing(x, "lend 0 to 0 at 300 for 1;", 0, 300);
        failing(x, "lend 0 to 0 at 301 for 1;", NONE, NONE);
    }

    private static void failing(LentHands x, String bookings, int number, int hour) {
        tell(x, 3, bookings);
        due("fails(0) of '" + bookings + "'", x.fails(0), number);
        due("fails(1) of '" + bookings + "'", x.fails(1), hour);
    }

    private static void rings() {
        sentence("RING of a PERSON and a side: he, who was born with what he has on that wrist, who was born with what that one has there,"
            + " and so on: after how many he comes again (0, if someone has nothing there, or it goes round without him).");
        LentHands x = people(3, 0);
        ring(x, 0, 1, 1, 1);
        ring(x, 1, 1, 1, 1);
        x.leave(1, 0);
        ring(x, 0, 1, 0, 1);
        ring(x, 1, 1, 1, 1);
        x = people(3, 0);
        x.lend(1, 1, 9, 0);
        x.lend(5, 0, 9, 0);
        ring(x, 1, 0, 0, 0);
        ring(x, 0, 1, 1, 1);
        // The wrist of the last serves to put a hand down: a ring of two, then of seven.
        x = people(3, 0);
        x.lend(0, 2, 9, 0);
        x.lend(2, 0, 9, 0);
        x.lend(0, 1, 9, 0);
        ring(x, 0, 2, 2, 0);
        x.fetch(2, 0);
        ring(x, 0, 2, 2, 1);
        x = people(8, 0);
        x.lend(0, 7, 9, 0);
        for (int p = 0; p < 6; p++) {
            ring(x, 0, ringsOfOwn(p));
            x.lend(2 * p + 2, p, 9, 0);
        }
        x.lend(0, 6, 9, 0);
        ring(x, 0, 7, 7, 7, 7, 7, 7, 7, 0);
        ring(x, 1, 1, 1, 1, 1, 1, 1, 1, 1);
        // All eight: a LOAN that ends brings the eighth from the OFFICE to FROM, who was not born with it.
        x = people(8, 0);
        x.lend(12, 5, 9, 0);
        x.lend(12, 6, 2, 0);
        x.fetch(5, 0);
        x.lend(14, 6, 9, 0);
        x.lend(0, 7, 9, 0);
        for (int p = 0; p < 5; p++) {
            x.lend(2 * p + 2, p, 9, 0);
        }
        x.hours(1);
        ring(x, 0, 0, 0, 0, 0, 0, 0, 0, 0);
        x.hours(1);
        ring(x, 0, 8, 8, 8, 8, 8, 8, 8, 8);

        sentence("OWNERS: PEOPLE who were born with neither of what they have (nothing counts as not).");
        x = people(4, 0);
        due("each has his own", x.bare(), 0);
        x.leave(0, 0);
        x.leave(2, 1);
        due("one is his own", x.bare(), 0);
        x.leave(0, 1);
        due("nothing on both", x.bare(), 0b0001);
        x.lend(2, 3, 9, 0);
        x.lend(4, 1, 9, 0);
        due("the left of another, the right his own", x.bare(), 0b0101);
        x.lend(3, 2, 9, 0);
        due("another's and nothing, nothing and another's", x.bare(), 0b0111);
        x.lend(7, 0, 9, 0);
        due("both of others, or one of another", x.bare(), 0b1111);
        x.lend(2, 1, 9, 0);
        due("one is his own again", x.bare(), 0b1101);
    }

    /** As long as the great ring is open: 1 for those who still have their own, 0 for the rest. */
    private static int[] ringsOfOwn(int given) {
        int[] want = new int[8];
        for (int p = given + 1; p < 7; p++) {
            want[p] = 1;
        }
        return want;
    }

    private static void ring(LentHands x, int side, int... want) {
        for (int p = 0; p < want.length; p++) {
            due("of(" + p + ", " + (6 + side) + ")", x.of(p, 6 + side), want[p]);
        }
    }

    private static void marks() {
        sentence("WHOSE: HANDS whose MARKS hold a set of PEOPLE whole.");
        LentHands x = people(3, 0);
        due("none marked yet", x.whose(1), 0);
        due("the empty set", x.whose(0), 0b111111);
        x.hours(1);
        x.lend(0, 1, 9, 0);
        x.lend(5, 1, 9, 0);
        x.hours(1);
        x.lend(0, 2, 8, 0);
        x.hours(1);
        due("0", x.whose(0b001), 0b000011);
        due("1", x.whose(0b010), 0b101101);
        due("0 and 1", x.whose(0b011), 0b000001);
        due("1 and 2", x.whose(0b110), 0b100001);
        due("0 and 2", x.whose(0b101), 0b000001);
        due("all three", x.whose(0b111), 0b000001);

        sentence("ASK next of a set of HANDS (two at least): the PERSON by whom, being in MARKS or not, they are told apart best:"
            + " of both parts the greater one is least; of several the least.");
        x = people(3, 0);
        x.hours(1);
        due("none", x.ask(0), NONE);
        due("one", x.ask(0b000100), NONE);
        due("two by 0 or 1", x.ask(0b000101), 0);
        due("two by 1 or 2", x.ask(0b010100), 1);
        due("two by none", x.ask(0b110000), 0);
        due("two and two by 0", x.ask(0b010111), 0);
        due("two and two by 1", x.ask(0b011101), 1);
        due("two and two by 2", x.ask(0b110101), 2);
        due("three and one by 0 or 2", x.ask(0b100011), 0);
        due("one and two by 1 or 2", x.ask(0b110100), 1);
        due("all: four and two by each", x.ask(0b111111), 0);
    }

    private static void learns() {
        sentence("LEARNS: SKILL for a KIND that a HAND on a wrist has after n (0 .. 99) HOURS of that TASK by who has it,"
            + " nothing else done (WEAR, HELD, HOUR as they would be; LOANS do not end).");
        LentHands x = people(2, 0);
        tell(x, 1, "learn 1;");
        x.task(1, 2);
        tell(x, 3, "lend 2 to 0 at 0 for 9;");
        due("-1", x.learns(0, 0, -1), NONE);
        due("0", x.learns(0, 0, 0), 0);
        due("1", x.learns(0, 0, 1), 1);
        due("98", x.learns(0, 0, 98), 98);
        due("99", x.learns(0, 0, 99), 99);
        due("100", x.learns(0, 0, 100), NONE);
        x.set(5, 0, 98);
        due("98 and 1", x.learns(0, 3, 1), 99);
        due("99 at most", x.learns(0, 3, 2), 99);
        due("another kind", x.learns(0, 2, 1), 1);
        tell(x, 1, "learn 1 when own = 0; learn 2 when kind = 3;");
        due("no booking is done", x.learns(2, 0, 5), 0);
        x.lend(0, 1, 1, 0);
        due("by who has it, and the loan does not end", x.learns(0, 0, 9), 9);
        due("in the office", x.learns(2, 0, 1), NONE);
        x.hours(2);
        due("of that kind", x.learns(3, 3, 2), 4);
        due("of that kind", x.learns(3, 2, 2), 0);
        tell(x, 1, "learn 1 when worn = 10; learn 2 when held = 4; learn 4 when hour = 5; wear 5;");
        x.set(6, 1, 5);
        due("worn 5, held 2, hour 2", x.learns(1, 0, 1), 0);
        due("worn 10 then", x.learns(1, 0, 2), 1);
        due("held 4 then", x.learns(1, 0, 3), 3);
        due("hour 5 then", x.learns(1, 0, 4), 7);
        due("none more", x.learns(1, 0, 9), 7);
        // WEAR stays 99 at most, and COIN is not asked.
        tell(x, 1, "wear 9; learn 1 when worn > 98; pay 99;");
        due("from the 12th on", x.learns(1, 0, 11), 0);
        due("from the 12th on", x.learns(1, 0, 12), 1);
        due("each after it", x.learns(1, 0, 20), 9);
    }

    private static void safe() {
        sentence("SAFE: of a million, that it is not scarred in n HOURS of it: a million at first; each HOUR times (1000 less scar) by 1000"
            + " (SKILL, WEAR, HELD, HOUR as they would be).");
        LentHands x = people(2, 0);
        due("no law", x.safe(0, 0, 99), 1000000);
        tell(x, 1, "scar 500;");
        due("-1", x.safe(0, 0, -1), NONE);
        due("0", x.safe(0, 0, 0), 1000000);
        due("1", x.safe(0, 0, 1), 500000);
        due("2", x.safe(0, 0, 2), 250000);
        due("6: 15625", x.safe(0, 0, 6), 15625);
        due("7: 7812 and a half", x.safe(0, 0, 7), 7812);
        due("20: none is left", x.safe(0, 0, 20), 0);
        due("99", x.safe(0, 0, 99), 0);
        due("100", x.safe(0, 0, 100), NONE);
        tell(x, 1, "scar 1;");
        due("99 of 1: 905 and more", x.safe(0, 0, 99) / 1000, 905);
        tell(x, 1, "scar 0 - 1;");
        due("held to 0", x.safe(0, 0, 9), 1000000);
        tell(x, 1, "scar 1001;");
        due("held to 1000", x.safe(0, 0, 1), 0);
        due("held to 1000", x.safe(0, 0, 2), 0);
        x.hours(3);
        tell(x, 1, "scar 100 when skill = 4; scar 200 when worn = 9; scar 300 when held = 6; scar 400 when hour = 7; learn 2; wear 3;");
        due("2 hours", x.safe(0, 0, 2), 1000000);
        due("the third, by skill", x.safe(0, 0, 3), 900000);
        due("the fourth, by wear", x.safe(0, 0, 4), 720000);
        due("the fifth, by hour", x.safe(0, 0, 5), 432000);
        x.set(6, 0, 1);
        due("held and not worn", x.safe(0, 0, 4), 630000);
        tell(x, 1, "scar 100 when scars = 1; scar 200;");
        due("no scar comes in thought", x.safe(0, 0, 2), 640000);
    }

    private static void finds() {
        sentence("FINDS a PERSON: the least HAND on another one's wrist with a SKILL of a KIND of n at least"
            + " that he could borrow now for h (1 .. 99) HOURS at price 0.");
        LentHands x = people(4, 0);
        x.set(4, 0, 90);
        x.set(4, 3, 50);
        x.set(4, 5, 51);
        x.set(2, 7, 99);
        due("49", x.finds(3, 2, 49, 1), 0);
        due("50 of another", x.finds(0, 2, 50, 1), 3);
        due("51", x.finds(0, 2, 51, 1), 5);
        due("52", x.finds(0, 2, 52, 1), NONE);
        due("90", x.finds(1, 2, 90, 1), 0);
        due("91", x.finds(1, 2, 91, 1), NONE);
        due("of that kind alone", x.finds(1, 3, 1, 1), NONE);
        due("0 hours", x.finds(3, 2, 49, 0), NONE);
        due("99 hours", x.finds(3, 2, 49, 99), 0);
        due("100 hours", x.finds(3, 2, 49, 100), NONE);
        due("any skill", x.finds(0, 2, MIN, 1), 2);
        due("none so great", x.finds(0, 2, MAX, 1), NONE);
        tell(x, 0, "bar when price > 0; bar when hours = 7 and best = 90;");
        due("at price 0", x.finds(3, 2, 49, 6), 0);
        due("barred for 7 hours", x.finds(3, 2, 49, 7), 3);
        x.lend(0, 1, 5, 0);
        due("to its END", x.finds(3, 2, 90, 5), 0);
        due("beyond its END", x.finds(3, 2, 90, 6), NONE);
        due("for who was born with it", x.finds(0, 2, 90, 5), 0);
        due("he has it", x.finds(1, 2, 90, 5), NONE);
        x.lend(6, 1, 5, 0);
        due("in the office", x.finds(3, 2, 90, 5), NONE);
        x = people(8, 0);
        x.set(2, 15, 1);
        due("the last of sixteen", x.finds(0, 0, 1, 1), 15);
        due("none of sixteen", x.finds(0, 0, 2, 1), NONE);
    }

    private static void dear() {
        sentence("DEAR: the greatest price (0 .. 99) at which a LOAN of a HAND to a PERSON for h HOURS can be now.");
        LentHands x = people(3, 98);
        due("98 an hour", x.dear(0, 1, 1), 98);
        due("49 an hour", x.dear(0, 1, 2), 49);
        due("98 hours", x.dear(0, 1, 98), 1);
        due("99 hours", x.dear(0, 1, 99), 0);
        x.set(0, 1, 99);
        due("99 an hour", x.dear(0, 1, 1), 99);
        x.set(0, 1, 9999);
        due("99 at most", x.dear(0, 1, 1), 99);
        due("99 for 99", x.dear(0, 1, 99), 99);
        x.set(0, 1, 0);
        due("nothing to pay with", x.dear(0, 1, 1), 0);
        tell(x, 0, "bar when price = 0;");
        due("not even at 0", x.dear(0, 1, 1), NONE);
        tell(x, 0, "may when price = 40; bar when price > 30 and price < 60 or price > 70; may when price = 70; bar when price > 10;");
        x.set(0, 1, 9999);
        due("the greatest of several", x.dear(0, 1, 1), 70);
        x.set(0, 1, 69);
        due("the next", x.dear(0, 1, 1), 40);
        x.set(0, 1, 39);
        due("the next", x.dear(0, 1, 1), 10);
    }

    private static void wish(LentHands x, int person, int work, int count, int left, int right) {
        due("wishes(" + person + ", " + work + ", 0)", x.wishes(person, work, 0), count);
        due("wishes(" + person + ", " + work + ", 1)", x.wishes(person, work, 1), left);
        due("wishes(" + person + ", " + work + ", 2)", x.wishes(person, work, 2), right);
    }

    private static void wishes() {
        sentence("WISHES of a PERSON for a WORK: the fewest LOANS (0 .. 2; of one HOUR each at price 0, one behind the other,"
            + " the left HAND first) by which he CAN do it: how many, the left HAND, the right one (NONE: none for that side);"
            + " of several the first (fewest, then the least left HAND, none first, then the least right one).");
        // 3 wishes; 0 and 1 have 50 on the left, 2 on the right.
        LentHands x = people(4, 0);
        x.set(2, 0, 50);
        x.set(2, 2, 50);
        x.set(2, 5, 50);
        tell(x, 4, "work 0 needs 50 pays 1; work 0 needs 50 pays 1 both; work 0 needs 51 pays 1; work 0 needs 0 pays 1 both;"
            + "work 1 needs 0 pays 1;");
        wish(x, 3, 3, 0, NONE, NONE);
        wish(x, 0, 0, 0, NONE, NONE);
        wish(x, 3, 0, 1, NONE, 5);
        wish(x, 3, 1, 2, 0, 5);
        wish(x, 3, 2, NO, NO, NO);
        wish(x, 0, 1, 1, NONE, 5);
        wish(x, 2, 1, 1, 0, NONE);
        x.set(2, 3, 50);
        wish(x, 3, 0, 1, NONE, 3);
        wish(x, 3, 1, 2, 0, 3);
        x.set(2, 3, 0);
        x.set(2, 5, 0);
        wish(x, 3, 0, 1, 0, NONE);
        wish(x, 3, 1, NO, NO, NO);
        x.set(2, 7, 50);
        x.set(2, 0, 0);
        wish(x, 3, 0, 0, NONE, NONE);
        wish(x, 3, 1, 1, 2, NONE);
        wish(x, 2, 1, 2, 2, 7);
        tell(x, 0, "bar when hours > 1 or price > 0;");
        wish(x, 3, 1, 1, 2, NONE);
        wish(x, 2, 1, 2, 2, 7);
        tell(x, 0, "bar when hours < 2 and left = 1;");
        wish(x, 3, 1, NO, NO, NO);
        wish(x, 2, 1, NO, NO, NO);
        wish(x, 2, 0, 1, NONE, 7);
        tell(x, 0, "bar when price < 1 and left = 0;");
        wish(x, 2, 1, NO, NO, NO);
        wish(x, 2, 0, 1, 2, NONE);
        tell(x, 0, "");
        x.leave(2, 0);
        x.leave(2, 1);
        wish(x, 2, 4, 1, NONE, 1);
        wish(x, 2, 3, 2, 0, 1);
        for (int i = 0; i < 14; i++) {
            x.lend(0, 1 - i % 2, 9, 0);
        }
        x.fetch(1, 0);
        wish(x, 2, 3, 2, 0, 1);
        x.lend(1, 3, 9, 0);
        wish(x, 2, 3, NO, NO, NO);
        wish(x, 2, 4, 1, NONE, 1);
        x.lend(1, 0, 9, 0);
        wish(x, 2, 4, NO, NO, NO);
        // The last hands of eight PEOPLE; and a right hand never serves for the left side, nor a left one for the right.
        x = people(8, 0);
        x.set(2, 14, 9);
        x.set(2, 15, 9);
        tell(x, 4, "work 0 needs 9 pays 1; work 0 needs 9 pays 1 both;");
        wish(x, 0, 0, 1, NONE, 15);
        wish(x, 0, 1, 2, 14, 15);
        x.set(2, 1, 9);
        x.set(2, 5, 9);
        wish(x, 6, 1, 2, 14, 1);
        x.set(2, 2, 9);
        wish(x, 6, 1, 2, 2, 1);
        x.set(2, 15, 0);
        wish(x, 6, 0, 1, NONE, 1);
        x.set(2, 1, 0);
        x.set(2, 5, 0);
        wish(x, 6, 0, 1, 2, NONE);
        wish(x, 6, 1, NO, NO, NO);
    }

    private static void spread() {
        sentence("SPREAD of a KIND: PEOPLE who have a HAND on a wrist with a SKILL of n at least, as a set.");
        LentHands x = people(8, 0);
        x.set(5, 0, 50);
        x.set(5, 15, 51);
        due("49", x.spread(3, 49), 0b10000001);
        due("50", x.spread(3, 50), 0b10000001);
        due("51", x.spread(3, 51), 0b10000000);
        due("52", x.spread(3, 52), 0);
        due("another kind", x.spread(2, 1), 0);
        due("any skill", x.spread(2, 0), 0b11111111);
        due("below any", x.spread(2, MIN), 0b11111111);
        due("above any", x.spread(3, MAX), 0);
        x.lend(15, 6, 9, 0);
        due("who has it", x.spread(3, 51), 0b01000000);
        x.lend(11, 6, 9, 0);
        due("in the office", x.spread(3, 51), 0);
        x.set(5, 1, 60);
        due("both hands are one person", x.spread(3, 50), 1);
        x.leave(0, 0);
        x.leave(0, 1);
        due("no hand", x.spread(2, 0), 0b11111110);
    }

    private static void out() {
        sentence("OUT: HANDS that are not on the wrist of who was born with them n (0 .. 300) HOURS from now, as a set.");
        LentHands x = people(8, 0);
        due("none", x.out(0), 0);
        x.lend(0, 7, 2, 0);
        x.leave(7, 1);
        x.leave(1, 0);
        tell(x, 3, "lend 4 to 1 at 299 for 1; lend 1 to 2 at 300 for 1;");
        due("-1", x.out(-1), NONE);
        due("0", x.out(0), 0b1100000000000101);
        due("1", x.out(1), 0b1100000000000101);
        due("2", x.out(2), 0b1000000000000100);
        due("299", x.out(299), 0b1000000000000100);
        due("300", x.out(300), 0b1000000000000000);
        due("301", x.out(301), NONE);
        x.hours(1);
        due("300 from 1 on", x.out(300), 0b1000000000000000);
        tell(x, 3, "lend 1 to 2 at 300 for 2;");
        due("300 from 1 on", x.out(300), 0b1000000000000000 | 0b100110);
    }

    private static void judged() {
        sentence("JUDGED: whose a DEED of a PERSON with what he has on a wrist would be, if HELD were n (0 .. 99) more, all else as now.");
        LentHands x = people(2, 9);
        due("no law", x.judged(0, 0, 0), 1);
        x.hours(2);
        tell(x, 2, "none when held = 2; hand when held = 3; both when held = 101; none when held = 102;");
        due("-1", x.judged(0, 0, -1), NONE);
        due("0", x.judged(0, 0, 0), 3);
        due("1", x.judged(0, 0, 1), 0);
        due("2", x.judged(0, 0, 2), 1);
        due("99", x.judged(0, 0, 99), 2);
        due("100", x.judged(0, 0, 100), NONE);
        x.lend(0, 1, 2, 4);
        tell(x, 2, "hand when price = 4 and own = 0; both;");
        due("its loan does not end", x.judged(1, 0, 99), 0);
        due("without a loan", x.judged(1, 1, 99), 2);
        due("nothing there", x.judged(0, 0, 0), NONE);

        sentence("LOOPHOLE: the least such n (1 .. 99) by which it would be another's than by 0.");
        x = people(1, 0);
        due("no law", x.loophole(0, 0), NONE);
        String[] laws = {"hand when held > 0;", "hand when held = 2; none when held = 1;", "hand when held > 98;", "hand when held > 99;",
            "none when held = 0; none when held = 50;", "both; hand;", "head when held = 1; none when held = 7;"};
        int[] want = {1, 1, 99, NONE, 1, NONE, 7};
        for (int i = 0; i < laws.length; i++) {
            tell(x, 2, laws[i]);
            due("loophole by '" + laws[i] + "'", x.loophole(0, 0), want[i]);
            due("of the right, too", x.loophole(0, 1), want[i]);
        }
        x.hours(1);
        int[] later = {NONE, 1, 98, 99, 49, NONE, 6};
        for (int i = 0; i < laws.length; i++) {
            tell(x, 2, laws[i]);
            due("an hour later, by '" + laws[i] + "'", x.loophole(0, 0), later[i]);
        }
    }

    private static void premium() {
        sentence("PREMIUM of a KIND and n (0 .. 99) HOURS: of all HANDS on wrists the millionths by which they are scarred in them"
            + " (a million less SAFE each), added.");
        LentHands x = people(8, 0);
        due("no law", x.premium(0, 99), 0);
        tell(x, 1, "scar 1000;");
        due("-1", x.premium(0, -1), NONE);
        due("0", x.premium(0, 0), 0);
        due("1", x.premium(0, 1), 16000000);
        due("99", x.premium(0, 99), 16000000);
        due("100", x.premium(0, 100), NONE);
        x.leave(7, 1);
        due("one in the office", x.premium(0, 1), 15000000);
        x.fetch(7, 1);
        for (int hand = 0; hand < 16; hand++) {
            x.set(6, hand, 3 * hand);
        }
        tell(x, 1, "scar worn;");
        due("3000 for each number up to 15", x.premium(0, 1), 3000 * 120);
        tell(x, 1, "scar 100 * kind when own = 1;");
        due("kind 0", x.premium(0, 1), 0);
        due("kind 3", x.premium(3, 1), 16 * 300000);
        due("2 hours of kind 1", x.premium(1, 2), 16 * 190000);
        x.lend(0, 1, 9, 0);
        due("one in the office, one with another", x.premium(1, 2), 14 * 190000);
        // Each from now on: what one HAND does in thought is not there for the next.
        tell(x, 1, "scar 500 when hour = 0 and worn < 46; wear 1;");
        due("each from now on", x.premium(1, 9), 15 * 500000);
    }

    private static void chains() {
        sentence("CHAIN of a HAND: FROM of its i-th LOAN (0 the eldest).");
        LentHands x = people(4, 0);
        x.lend(5, 0, 9, 0);
        x.lend(0, 3, 9, 0);
        x.lend(5, 3, 9, 0);
        x.lend(0, 1, 8, 0);
        due("none", x.chain(1, 0), NONE);
        due("-1", x.chain(5, -1), NONE);
        due("0", x.chain(5, 0), 2);
        due("1", x.chain(5, 1), 0);
        due("2", x.chain(5, 2), NONE);
        due("0 of another", x.chain(0, 0), 0);
        due("1 of another", x.chain(0, 1), 3);
        x.hours(8);
        due("ended", x.chain(0, 1), NONE);
        due("MAX", x.chain(0, MAX), NONE);

        sentence("OWES of a PERSON: HANDS of LOANS to him, as a set; LENT: those of LOANS from him.");
        x = people(8, 0);
        due("none", x.owes(0, 0), 0);
        due("none", x.owes(0, 1), 0);
        x.lend(15, 0, 9, 0);
        x.lend(0, 7, 9, 0);
        x.lend(15, 1, 9, 0);
        x.lend(15, 0, 9, 0);
        due("twice one", x.owes(0, 0), 0b1000000000000000);
        due("two", x.owes(0, 1), 0b1000000000000001);
        due("one", x.owes(7, 0), 1);
        due("one", x.owes(7, 1), 0b1000000000000000);
        due("one", x.owes(1, 0), 0b1000000000000000);
        due("one", x.owes(1, 1), 0b1000000000000000);
        due("none", x.owes(2, 0), 0);
        x.lend(2, 7, 9, 0);
        due("what was pushed into the office, too", x.owes(7, 0), 0b101);
        x.hours(9);
        due("ended", x.owes(7, 0), 0);
    }

    private static void callus() {
        sentence("CALLUS: of HANDS that are not on the wrist of who was born with them (in the OFFICE, too) the one with the greatest WEAR;"
            + " of several the least.");
        LentHands x = people(8, 0);
        x.set(6, 4, 99);
        due("all at home", x.callus(), NONE);
        x.lend(15, 0, 9, 0);
        due("both worn 0: the least", x.callus(), 1);
        x.set(6, 15, 1);
        due("the greatest", x.callus(), 15);
        x.set(6, 1, 1);
        due("both worn 1: the least", x.callus(), 1);
        x.set(6, 15, 2);
        due("the greatest", x.callus(), 15);
        x.leave(2, 0);
        due("in the office", x.callus(), 4);
        x.lend(0, 3, 9, 0);
        x.lend(0, 0, 9, 0);
        x.set(6, 0, 99);
        due("at home by a loan", x.callus(), 4);
        x.leave(0, 0);
        due("of two worn 99 the least", x.callus(), 0);
    }

    private static void turns() {
        sentence("TURNS of two for n (1 .. 60) HOURS of one pair: of shares c (a's) to d (b's), 1 .. 9 each:"
            + " each HOUR a has it, if the HOURS that a had times d are at most the HOURS that b had times c,"
            + " else b: a's HOURS; in HOUR i: 0 a, 1 b.");
        LentHands x = new LentHands();
        due("n 0", x.turnsOf(0, 1, 1, 0), NONE);
        due("n 61", x.turnsOf(61, 1, 1, 0), NONE);
        due("c 0", x.turnsOf(9, 0, 1, 0), NONE);
        due("c 10", x.turnsOf(9, 10, 1, 0), NONE);
        due("d 0", x.turnsOf(9, 1, 0, 0), NONE);
        due("d 10", x.turnsOf(9, 1, 10, 0), NONE);
        due("n 1", x.turnsOf(1, 9, 9, 0), 1);
        due("n 60", x.turnsOf(60, 9, 9, 0), 30);
        due("n 59", x.turnsOf(59, 9, 9, 0), 30);
        due("9 to 1", x.turnsOf(60, 9, 1, 0), 54);
        due("1 to 9", x.turnsOf(60, 1, 9, 0), 6);
        turn(x, 1, 1, "ababababab");
        turn(x, 1, 2, "abbabbabba");
        turn(x, 2, 1, "abaabaabaa");
        turn(x, 3, 2, "ababaababa");
        turn(x, 2, 3, "abbababbab");
    }

    private static void turn(LentHands x, int c, int d, String want) {
        int n = want.length();
        for (int i = 0; i < n; i++) {
            due("turnsOf(" + n + ", " + c + ", " + d + ", " + (10 + i) + ")", x.turnsOf(n, c, d, 10 + i), want.charAt(i) - 'a');
        }
        due("beyond", x.turnsOf(n, c, d, 10 + n), NONE);
        due("a's hours", x.turnsOf(n, c, d, 0), (int) want.chars().filter(who -> who == 'a').count());
    }
}
