/** The promises' own sentences: what each method answers just inside its bounds and just outside. */
final class PromiseBounds extends Sentences {
    /** Where 0 .. most can be told, these can't. */
    private static int[] beside(int most) {
        return new int[] {-1, most + 1, MIN, MAX};
    }

    static void run() {
        sentence("The constants: `NONE = -1`: None.");
        due("NONE", LentHands.NONE, -1);
        newObject();
        told();
        acts();
        tape();
        texts();
        people();
        hands();
        rows();
        may();
        works();
        ahead();
        sets();
        tried();
        borrowed();
        wishes();
        more();
        judged();
        chains();
        turns();
        undone();
        look();
    }

    private static void newObject() {
        sentence("Nobody there.");
        LentHands x = new LentHands();
        for (int what = 0; what < 12; what++) {
            due("look(" + what + ")", x.look(what), 0);
            due("of(0, " + what + ")", x.of(0, what), NO);
            due("at(0, " + what + ")", x.at(0, what), NO);
        }
        due("lend", x.lend(0, 0, 1, 0), NONE);
        due("leave", x.leave(0, 0), false);
        due("fetch", x.fetch(0, 0), false);
        due("task", x.task(0, 0), false);
        due("deed", x.deed(0, 0), NONE);
        due("set", x.set(0, 0, 0), false);
        due("may", x.may(0, 0, 1, 0), NONE);
        due("back", x.back(), 0);
        due("out", x.out(300), 0);
        due("bare", x.bare(), 0);
        due("spread", x.spread(0, 0), 0);
        due("premium", x.premium(0, 99), 0);
        due("whose(0)", x.whose(0), 0);
        due("whose(1)", x.whose(1), NONE);
        due("ask(3)", x.ask(3), NONE);
        due("callus", x.callus(), NONE);
        due("pay(0)", x.pay(0), 0);
        due("undo", x.undo(), false);
        due("image(false)", x.image(false), false);
        due("hours(1)", x.hours(1), 0);
    }

    private static void told() {
        sentence("STATE is told: what it was.");
        LentHands x = new LentHands();
        due("state(5)", x.state(5), 0);
        due("state(MAX)", x.state(MAX), 5);
        due("state(MIN)", x.state(MIN), MAX);
        due("look(4)", x.look(4), MIN);

        sentence("A PERSON: the number; NONE if one can't be, or there are eight.");
        for (int bad : beside(9999)) {
            due("coin " + bad, x.person(bad, 0), NONE);
        }
        for (int bad : beside(1)) {
            due("child " + bad, x.person(0, bad), NONE);
        }
        for (int i = 0; i < 8; i++) {
            due("person " + i, x.person(9999 - i, i % 2), i);
        }
        due("the ninth", x.person(0, 0), NONE);
        due("eight", x.look(0), 8);
        due("the eighth", x.of(7, 0), 9992);

        sentence("What 0 COIN, 1 CHILD of PERSON who; 2 + k SKILL of KIND k, 6 WEAR, 7 SCARS of HAND who: true;"
            + " false if one can't be, or another what.");
        x = people(2, 3);
        int[] most = {9999, 1, 99, 99, 99, 99, 99, 9};
        for (int what = 0; what < 8; what++) {
            int last = what < 2 ? 1 : 3;
            due("the last, the most", x.set(what, last, most[what]), true);
            due("the first, the least", x.set(what, 0, 0), true);
            due("what " + what + " told", what < 2 ? x.of(1, what) : x.at(3, what - 2), most[what]);
            due("what " + what + " told", what < 2 ? x.of(0, what) : x.at(0, what - 2), 0);
            for (int bad : beside(most[what])) {
                due("set(" + what + ", 0, " + bad + ")", x.set(what, 0, bad), false);
            }
            for (int bad : beside(last)) {
                due("set(" + what + ", " + bad + ", 0)", x.set(what, bad, 0), false);
            }
        }
        for (int bad : beside(7)) {
            due("set(" + bad + ", 0, 0)", x.set(bad, 0, 0), false);
        }
    }

    private static void acts() {
        sentence("A LOAN: its END; NONE if it can't be.");
        LentHands x = people(2, 9999);
        for (int bad : beside(3)) {
            due("hand " + bad, x.lend(bad, 1, 1, 0), NONE);
        }
        for (int bad : beside(1)) {
            due("to " + bad, x.lend(0, bad, 1, 0), NONE);
        }
        for (int bad : new int[] {0, 100, MIN, MAX}) {
            due("hours " + bad, x.lend(0, 1, bad, 0), NONE);
        }
        for (int bad : beside(99)) {
            due("price " + bad, x.lend(0, 1, 1, bad), NONE);
        }
        // 65536 times 65536 would wrap to 0.
        due("hours and price far off", x.lend(0, 1, 65536, 65536), NONE);
        due("nothing was done", x.look(2) + x.look(10), 0);
        x.hours(1);
        due("the first to the last", x.lend(0, 1, 1, 99), 2);
        due("the last to the first", x.lend(3, 0, 99, 0), 100);

        sentence("To LEAVE (side 0 left, 1 right): true; false if it can't be.");
        x = people(2, 0);
        sides(x, 0);
        due("none left", x.look(11), 0);
        due("left", x.leave(1, 0), true);
        due("hand 2", x.look(11), 0b0100);
        due("again", x.leave(1, 0), false);
        due("right", x.leave(0, 1), true);
        due("hand 1", x.look(11), 0b0110);

        sentence("To FETCH: true; false if it can't be.");
        sides(x, 1);
        due("none fetched", x.look(11), 0b0110);
        due("left", x.fetch(1, 0), true);
        due("again", x.fetch(1, 0), false);
        due("right", x.fetch(0, 1), true);
        due("none there", x.look(11), 0);

        sentence("A TASK (NONE: none): true; false if one can't be.");
        for (int bad : beside(1)) {
            due("task(" + bad + ", 0)", x.task(bad, 0), false);
        }
        for (int bad : new int[] {-2, 4, MIN, MAX}) {
            due("task(0, " + bad + ")", x.task(0, bad), false);
        }
        due("of(0, 2)", x.of(0, 2), NONE);
        due("task(0, 0)", x.task(0, 0), true);
        due("task(1, 3)", x.task(1, 3), true);
        due("task(0, NONE)", x.task(0, NONE), true);
        due("of(0, 2)", x.of(0, 2), NONE);
        due("of(1, 2)", x.of(1, 2), 3);

        sentence("A DEED: whose; NONE if he has nothing on that wrist, or one can't be.");
        sides(x, 2);
        due("no line", x.look(3), 0);
        due("left of the last", x.deed(1, 0), 1);
        due("right of the first", x.deed(0, 1), 1);
        x.leave(0, 1);
        due("nothing there", x.deed(0, 1), NONE);
        due("two lines", x.look(3), 2);

        sentence("HOURS go by (1 .. 100): how many BOOKINGS FAILED in them."
            + " NONE, and nothing is done, if one can't be, or HOUR would be above 9999.");
        x = people(2, 0);
        for (int bad : new int[] {0, -1, 101, MIN, MAX}) {
            due("hours(" + bad + ")", x.hours(bad), NONE);
        }
        due("nothing is done", x.look(1) + x.at(0, 7) + x.look(10), 0);
        tell(x, 3, "lend 0 to 0 at 0 for 1; lend 0 to 0 at 1 for 1; lend 0 to 1 at 1 for 1; lend 0 to 0 at 99 for 1;"
            + "lend 0 to 0 at 100 for 1; lend 0 to 0 at 199 for 1; lend 0 to 0 at 200 for 1;");
        due("hours(1)", x.hours(1), 1);
        due("hours(99)", x.hours(99), 2);
        due("hours(100)", x.hours(100), 2);
        due("hours(1)", x.hours(1), 1);
        for (int i = 0; i < 97; i++) {
            x.hours(100);
        }
        due("9901", x.look(1), 9901);
        due("up to 10001", x.hours(100), NONE);
        due("up to 10000", x.hours(99), NONE);
        due("nothing is done", x.look(1), 9901);
        due("up to 9999", x.hours(98), 0);
        due("9999", x.look(1), 9999);
        due("up to 10000", x.hours(1), NONE);
    }

    /** Two PEOPLE: leave (0), fetch (1), deed (2) of nobody, and on sides that are none. */
    private static void sides(LentHands x, int act) {
        for (int bad : beside(1)) {
            for (int i = 0; i < 2; i++) {
                int person = i == 0 ? bad : 1;
                int side = i == 0 ? 1 : bad;
                String call = "(" + person + ", " + side + ")";
                switch (act) {
                    case 0: due("leave" + call, x.leave(person, side), false); break;
                    case 1: due("fetch" + call, x.fetch(person, side), false); break;
                    default: due("deed" + call, x.deed(person, side), NONE); break;
                }
            }
        }
    }

    private static void tape() {
        sentence("Twenty bytes come behind the TAPE, of each number the highest first: how many it has."
            + " NONE, and nothing comes, if there would be more than 400.");
        LentHands x = people(1, 0);
        // "hand;bot" "h;none;head;"
        due("20", x.feed(0x68616e64, 0x3b626f74, 0x683b6e6f, 0x6e653b68, 0x6561643b), 20);
        due("four lines", x.text(2), 4);
        due("hand", x.judged(0, 0, 0), 0);
        for (int i = 1; i <= 19; i++) {
            due("feed", x.feed(FOUR_BLANKS, FOUR_BLANKS, FOUR_BLANKS, FOUR_BLANKS, FOUR_BLANKS), 20 * i);
        }
        x.feed(FOUR_BLANKS, FOUR_BLANKS, FOUR_BLANKS, FOUR_BLANKS, FOUR_BLANKS);
        x.end(381);
        due("401", x.feed(0x6d61793b, 0, 0, 0, 0), NONE);
        due("nothing came", x.end(382), false);
        due("381 blanks", x.end(381), true);
        x.end(380);
        due("400", x.feed(0x6d61793b, FOUR_BLANKS, FOUR_BLANKS, FOUR_BLANKS, 0x6d61793b), 400);
        due("401 and more", x.feed(0, 0, 0, 0, 0), NONE);
        due("the last twenty", x.text(0), 2);
        // A byte of 255 is one, too, and not below 0.
        x.feed(0x6d6179ff, -1, -1, -1, -1);
        due("no sign", x.text(0), NONE);
        due("its place", x.fault(1), 3);

        sentence("The TAPE has its first n bytes alone: true; false, changing nothing, if it has not so many, or n is below 0.");
        x = people(1, 0);
        due("0 of none", x.end(0), true);
        due("1 of none", x.end(1), false);
        onTape(x, "may;may;may;");
        for (int bad : beside(12)) {
            due("end(" + bad + ")", x.end(bad), false);
        }
        due("12 still", x.end(12), true);
        due("11", x.end(11), true);
        due("no longer 12", x.end(12), false);
        due("8", x.end(8), true);
        due("two lines", x.text(0), 2);
        onTape(x, "may;");
        due("0", x.end(0), true);
        due("none", x.text(0), 0);
    }

    private static void texts() {
        sentence("The TAPE, empty then, is TEXT k: how many lines. NONE: no such one (fault() tells 0; the TAPE is empty, too),"
            + " or a FAULT (the TEXT stays as it was; the TAPE is empty).");
        LentHands x = people(1, 0);
        String[] line = {"bar;", "pay 1;", "none;", "lend 0 to 0 at 0 for 1;", "work 0 needs 0 pays 0;"};
        for (int k = 0; k < 5; k++) {
            due("text(" + k + ")", tell(x, k, line[k] + line[k]), 2);
            due("the tape is empty", x.end(1), false);
            due("look(" + (5 + k) + ")", x.look(5 + k), 2);
            due("a fault", tell(x, k, line[k] + "."), NONE);
            due("the tape is empty", x.end(1), false);
            due("fault(0)", x.fault(0), 1);
            due("as it was", x.look(5 + k), 2);
        }
        due("the law as it was", x.may(0, 0, 1, 0), 0);
        due("the law as it was", x.judged(0, 0, 0), 3);
        for (int bad : beside(4)) {
            due("a fault", tell(x, 0, "."), NONE);
            due("fault(0)", x.fault(0), 1);
            onTape(x, "may;");
            due("text(" + bad + ")", x.text(bad), NONE);
            due("fault(0)", x.fault(0), 0);
            due("fault(1)", x.fault(1), NONE);
            due("the tape is empty", x.end(1), false);
        }
        due("no text was told", x.look(5), 2);

        sentence("Of the latest text(): what 0 the FAULT (0 without one), 1 its place (NONE). NONE for another what.");
        x = people(1, 0);
        due("ahead of any", x.fault(0), 0);
        due("ahead of any", x.fault(1), NONE);
        tell(x, 0, "may when 1/0 = 1;");
        due("a part by 0", x.fault(0), 2);
        due("at", x.fault(1), 11);
        for (int bad : beside(1)) {
            due("fault(" + bad + ")", x.fault(bad), NONE);
        }
        onTape(x, "may;");
        due("still of the latest", x.fault(0), 2);
        x.text(0);
        due("none", x.fault(0), 0);
        due("no place", x.fault(1), NONE);
        tell(x, 2, times("hand;", 17));
        due("a 17th", x.fault(0), 3);
        due("at", x.fault(1), 80);
        // LAWS told one after another do not fill anything up.
        for (int i = 0; i < 30; i++) {
            due("a long law", tell(x, 0, "bar when 0" + times("+1", 60) + "=" + (60 + i % 2) + ";"), 1);
        }
        due("the last is not so", x.may(0, 0, 1, 0), 1);
        tell(x, 0, "bar when 0" + times("+1", 60) + "=60;");
        due("this is", x.may(0, 0, 1, 0), 0);
        // Nothing of a longer TEXT stays behind a shorter one.
        tell(x, 0, "bar when not 1 = 1; bar when not 1 = 1;");
        tell(x, 0, "bar when 1 = 1;");
        due("so alone", x.may(0, 0, 1, 0), 0);
        tell(x, 0, "bar when 1 = 2;");
        due("not so alone", x.may(0, 0, 1, 0), 1);
        tell(x, 2, "hand when 1 = 2; none;");
        tell(x, 2, "hand when 1 = 2;");
        due("no second line", x.judged(0, 0, 0), 1);
    }

    private static void people() {
        sentence("Of a PERSON what 0 COIN, 1 CHILD, 2 TASK (NONE), 3 GUILT, 4, 5 what he has on the left, the right wrist (NONE),"
            + " 6, 7 RING left, right. NONE - 1 if there is none such, or another what.");
        LentHands x = new LentHands();
        x.person(9999, 0);
        x.person(0, 1);
        x.task(1, 3);
        x.deed(1, 0);
        x.leave(1, 0);
        x.lend(3, 0, 9, 0);
        int[][] want = {{9999, 0, NONE, 0, 0, 3, 1, 0}, {0, 1, 3, 1, NONE, NONE, 0, 0}};
        for (int p = 0; p < 2; p++) {
            for (int what = 0; what < 8; what++) {
                due("of(" + p + ", " + what + ")", x.of(p, what), want[p][what]);
            }
            for (int bad : beside(7)) {
                due("of(" + p + ", " + bad + ")", x.of(p, bad), NO);
            }
        }
        for (int bad : beside(1)) {
            for (int what = -1; what < 9; what++) {
                due("of(" + bad + ", " + what + ")", x.of(bad, what), NO);
            }
        }
    }

    private static void hands() {
        sentence("Of a HAND what 0 to 3 SKILLS, 4 WEAR, 5 SCARS, 6 MARKS, 7 HELD, 8 on whose wrist (NONE: OFFICE),"
            + " 9 how many LOANS it has, 10 END of the latest (NONE). NONE - 1 if there is none such, or another what.");
        LentHands x = people(2, 0);
        for (int what = 2; what < 8; what++) {
            x.set(what, 3, what + 1);
        }
        x.hours(1);
        x.lend(3, 0, 9, 0);
        x.hours(1);
        x.lend(3, 1, 7, 0);
        x.lend(3, 0, 6, 0);
        x.hours(2);
        int[][] want = {{0, 0, 0, 0, 0, 0, 1, 1, NONE, 0, NONE}, {3, 4, 5, 6, 7, 8, 3, 2, 0, 3, 8}};
        // Hand 1 was held one HOUR ahead of the first LOAN; in the OFFICE that is gone.
        want[0][7] = 0;
        for (int i = 0; i < 2; i++) {
            int hand = 2 * i + 1;
            for (int what = 0; what < 11; what++) {
                due("at(" + hand + ", " + what + ")", x.at(hand, what), want[i][what]);
            }
            for (int bad : beside(10)) {
                due("at(" + hand + ", " + bad + ")", x.at(hand, bad), NO);
            }
        }
        for (int bad : beside(3)) {
            for (int what = -1; what < 12; what++) {
                due("at(" + bad + ", " + what + ")", x.at(bad, what), NO);
            }
        }
    }

    private static void rows() {
        sentence("Of LOAN i what 0 HAND, 1 FROM, 2 TO, 3 END, 4 PRICE. NONE if there is none such, or another what.");
        LentHands x = people(3, 99);
        due("loan(0, 0)", x.loan(0, 0), NONE);
        x.hours(1);
        x.lend(3, 0, 9, 1);
        x.lend(4, 1, 2, 7);
        int[][] loans = {{3, 1, 0, 10, 1}, {4, 2, 1, 3, 7}};
        for (int i = 0; i < 2; i++) {
            for (int what = 0; what < 5; what++) {
                due("loan(" + i + ", " + what + ")", x.loan(i, what), loans[i][what]);
            }
            for (int bad : beside(4)) {
                due("loan(" + i + ", " + bad + ")", x.loan(i, bad), NONE);
            }
        }
        for (int bad : beside(1)) {
            due("loan(" + bad + ", 0)", x.loan(bad, 0), NONE);
        }
        x.hours(2);
        due("the second has ended", x.loan(1, 0), NONE);

        sentence("Of line i of THE BOOK what 0 HOUR, 1 HAND, 2 PERSON, 3 whose. NONE if there is none such, or another what.");
        due("book(0, 0)", x.book(0, 0), NONE);
        x.deed(0, 1);
        tell(x, 2, "none;");
        x.hours(1);
        x.deed(2, 0);
        int[][] book = {{3, 3, 0, 1}, {4, 4, 2, 3}};
        for (int i = 0; i < 2; i++) {
            for (int what = 0; what < 4; what++) {
                due("book(" + i + ", " + what + ")", x.book(i, what), book[i][what]);
            }
            for (int bad : beside(3)) {
                due("book(" + i + ", " + bad + ")", x.book(i, bad), NONE);
            }
        }
        for (int bad : beside(1)) {
            due("book(" + bad + ", 0)", x.book(bad, 0), NONE);
        }
    }

    private static void may() {
        sentence("Whether a LOAN MAY be by the LAW alone: 1, 0; NONE if one can't be (none such, hours, price).");
        LentHands x = people(2, 0);
        tell(x, 0, "bar when hours = 99 and price = 99;");
        due("not the coin", x.may(0, 1, 99, 98), 1);
        due("barred", x.may(0, 1, 99, 99), 0);
        due("to who has it", x.may(3, 1, 1, 0), 1);
        x.leave(1, 1);
        due("in the office", x.may(3, 0, 1, 0), 1);
        x.lend(0, 1, 1, 0);
        due("beyond its END", x.may(0, 0, 9, 0), 1);
        for (int i = 0; i < 15; i++) {
            x.lend(0, i % 2, 1, 0);
        }
        due("16 loans", x.look(2), 16);
        due("with 16 loans", x.may(0, 1, 1, 0), 1);
        for (int bad : beside(3)) {
            due("hand " + bad, x.may(bad, 1, 1, 0), NONE);
        }
        for (int bad : beside(1)) {
            due("to " + bad, x.may(0, bad, 1, 0), NONE);
        }
        for (int bad : new int[] {0, 100, MIN, MAX}) {
            due("hours " + bad, x.may(0, 1, bad, 0), NONE);
        }
        for (int bad : beside(99)) {
            due("price " + bad, x.may(0, 1, 1, bad), NONE);
        }
    }

    private static void works() {
        sentence("CAN: 1, 0; NONE if there is none such.");
        LentHands x = people(2, 0);
        due("no works", x.can(0, 0), NONE);
        tell(x, 4, "work 0 needs 1 pays 7; work 0 needs 0 pays 5;");
        due("can(0, 0)", x.can(0, 0), 0);
        due("can(1, 1)", x.can(1, 1), 1);
        for (int bad : beside(1)) {
            due("can(" + bad + ", 1)", x.can(bad, 1), NONE);
            due("can(1, " + bad + ")", x.can(1, bad), NONE);
        }

        sentence("PAY what 0 the sum, 10 + i who does WORK i (NONE). NONE for another what.");
        due("sum", x.pay(0), 5);
        due("nobody", x.pay(10), NONE);
        due("somebody", x.pay(11), 0);
        for (int bad : new int[] {-1, 1, 9, 12, 18, MIN, MAX}) {
            due("pay(" + bad + ")", x.pay(bad), NONE);
        }
        tell(x, 4, times("work 0 needs 0 pays 1;", 8));
        due("the last work", x.pay(17), 1);
        due("the last but two", x.pay(15), NONE);
        due("pay(18)", x.pay(18), NONE);
    }

    private static void ahead() {
        sentence("BACK; NONE if not by then.");
        LentHands x = people(2, 0);
        x.leave(1, 0);
        tell(x, 3, "lend 0 to 1 at 300 for 1;");
        due("at 301", x.back(), NONE);
        tell(x, 3, "lend 0 to 1 at 299 for 1;");
        due("at 300", x.back(), 300);

        sentence("WHERE: a PERSON; NONE: OFFICE; NONE - 1 if one can't be.");
        due("the last hand", x.where(3, 300), 1);
        due("the first", x.where(0, 0), 0);
        due("office", x.where(2, 299), NONE);
        for (int bad : beside(3)) {
            due("where(" + bad + ", 0)", x.where(bad, 0), NO);
        }
        for (int bad : beside(300)) {
            due("where(2, " + bad + ")", x.where(2, bad), NO);
        }

        sentence("FIRST that FAILS what 0 the BOOKING, 1 the HOUR. NONE if none will, or another what.");
        due("none will", x.fails(0), NONE);
        due("none will", x.fails(1), NONE);
        tell(x, 3, "lend 0 to 0 at 2 for 1; lend 2 to 0 at 1 for 1;");
        due("the booking", x.fails(0), 1);
        due("the hour", x.fails(1), 1);
        for (int bad : beside(1)) {
            due("fails(" + bad + ")", x.fails(bad), NONE);
        }

        sentence("OWNERS who have none of their own, as a set.");
        due("one of two", x.bare(), 0);
        x.leave(1, 1);
        due("none of two", x.bare(), 0b10);
        x.lend(0, 1, 9, 0);
        due("none of two", x.bare(), 0b10);
        x.leave(0, 1);
        due("both", x.bare(), 0b11);
    }

    private static void sets() {
        sentence("WHOSE, as a set of HANDS; NONE if the set is not one of PEOPLE that there are.");
        LentHands x = people(3, 0);
        x.hours(1);
        due("none asked for", x.whose(0), 0b111111);
        due("the last alone", x.whose(0b100), 0b110000);
        due("all three", x.whose(0b111), 0);
        for (int bad : new int[] {-1, 8, 9, 1 << 30, MIN, MIN + 1, MAX}) {
            due("whose(" + bad + ")", x.whose(bad), NONE);
        }
        x = people(8, 0);
        due("all eight", x.whose(255), 0);
        due("256", x.whose(256), NONE);

        sentence("ASK; NONE if one can't be.");
        due("all sixteen", x.ask(65535), 0);
        due("the last two", x.ask(0b1100000000000000), 0);
        due("a 17th", x.ask(65537), NONE);
        x = people(3, 0);
        x.hours(1);
        due("the first and the last", x.ask(0b100001), 0);
        due("the last two of the last two", x.ask(0b101000), 1);
        for (int bad : new int[] {0, 1, 32, 65, 96, -1, 1 << 30 | 1, MIN, MIN + 1, MIN + 3, MAX}) {
            due("ask(" + bad + ")", x.ask(bad), NONE);
        }
    }

    private static void tried() {
        sentence("LEARNS; NONE if one can't be (in the OFFICE).");
        LentHands x = people(2, 0);
        tell(x, 1, "learn 1; scar 100;");
        x.leave(0, 0);
        due("the last hand and kind", x.learns(3, 3, 99), 99);
        due("0 hours", x.learns(3, 3, 0), 0);
        due("in the office", x.learns(0, 0, 0), NONE);
        for (int bad : beside(3)) {
            due("learns(" + bad + ", 0, 1)", x.learns(bad, 0, 1), NONE);
            due("learns(3, " + bad + ", 1)", x.learns(3, bad, 1), NONE);
        }
        for (int bad : beside(99)) {
            due("learns(3, 0, " + bad + ")", x.learns(3, 0, bad), NONE);
        }

        sentence("SAFE; NONE if one can't be (in the OFFICE; n 0 .. 99).");
        due("the last hand and kind", x.safe(3, 3, 2), 810000);
        due("0 hours", x.safe(3, 3, 0), 1000000);
        due("99 hours", x.safe(3, 3, 99) < 30, true);
        due("in the office", x.safe(0, 0, 0), NONE);
        for (int bad : beside(3)) {
            due("safe(" + bad + ", 0, 1)", x.safe(bad, 0, 1), NONE);
            due("safe(3, " + bad + ", 1)", x.safe(3, bad, 1), NONE);
        }
        for (int bad : beside(99)) {
            due("safe(3, 0, " + bad + ")", x.safe(3, 0, bad), NONE);
        }
    }

    private static void borrowed() {
        sentence("FINDS; NONE if there is none, or one can't be.");
        LentHands x = people(2, 0);
        x.set(5, 3, 7);
        due("the last hand and kind", x.finds(0, 3, 7, 99), 3);
        due("there is none", x.finds(0, 3, 8, 99), NONE);
        due("there is none for who has it", x.finds(1, 3, 7, 99), NONE);
        due("the first", x.finds(1, 0, 0, 1), 0);
        for (int bad : beside(1)) {
            due("finds(" + bad + ", 0, 0, 1)", x.finds(bad, 0, 0, 1), NONE);
        }
        for (int bad : beside(3)) {
            due("finds(0, " + bad + ", 0, 1)", x.finds(0, bad, 0, 1), NONE);
            due("finds(1, " + bad + ", MIN, 1)", x.finds(1, bad, MIN, 1), NONE);
        }
        for (int bad : new int[] {0, -1, 100, MIN, MAX}) {
            due("finds(0, 3, 0, " + bad + ")", x.finds(0, 3, 0, bad), NONE);
        }

        sentence("DEAR; NONE if at none, or one can't be.");
        x = people(2, 9999);
        due("the last to the first", x.dear(3, 0, 99), 99);
        due("to who has it", x.dear(3, 1, 99), NONE);
        for (int bad : beside(3)) {
            due("dear(" + bad + ", 1, 1)", x.dear(bad, 1, 1), NONE);
        }
        for (int bad : beside(1)) {
            due("dear(0, " + bad + ", 1)", x.dear(0, bad, 1), NONE);
        }
        for (int bad : new int[] {0, -1, 100, MIN, MAX}) {
            due("dear(0, 1, " + bad + ")", x.dear(0, 1, bad), NONE);
        }
        tell(x, 0, "bar;");
        due("at none", x.dear(0, 1, 1), NONE);
    }

    private static void wishes() {
        sentence("WISHES what 0 how many, 1 the left HAND, 2 the right one (NONE). NONE - 1 if by none, one can't be, or another what.");
        LentHands x = people(2, 0);
        due("no work", x.wishes(0, 0, 0), NO);
        x.set(2, 2, 9);
        x.set(2, 3, 9);
        tell(x, 4, "work 0 needs 9 pays 1 both; work 0 needs 9 pays 1; work 0 needs 10 pays 1;");
        int[][][] want = {{{2, 2, 3}, {1, NONE, 3}, {NO, NO, NO}}, {{0, NONE, NONE}, {0, NONE, NONE}, {NO, NO, NO}}};
        for (int p = 0; p < 2; p++) {
            for (int work = 0; work < 3; work++) {
                for (int what = 0; what < 3; what++) {
                    due("wishes(" + p + ", " + work + ", " + what + ")", x.wishes(p, work, what), want[p][work][what]);
                }
                for (int bad : beside(2)) {
                    due("wishes(" + p + ", " + work + ", " + bad + ")", x.wishes(p, work, bad), NO);
                }
            }
            for (int bad : beside(2)) {
                due("wishes(" + p + ", " + bad + ", 0)", x.wishes(p, bad, 0), NO);
            }
        }
        for (int bad : beside(1)) {
            due("wishes(" + bad + ", 1, 0)", x.wishes(bad, 1, 0), NO);
        }
    }

    private static void more() {
        sentence("SPREAD; NONE if there is no such KIND.");
        LentHands x = people(2, 0);
        x.set(5, 3, 1);
        due("kind 3", x.spread(3, 1), 0b10);
        due("kind 0", x.spread(0, 0), 0b11);
        due("no skill so great", x.spread(0, 100), 0);
        for (int bad : beside(3)) {
            due("spread(" + bad + ", 0)", x.spread(bad, 0), NONE);
        }

        sentence("OUT; NONE if one can't be.");
        x.leave(1, 1);
        due("0", x.out(0), 0b1000);
        due("300", x.out(300), 0b1000);
        for (int bad : beside(300)) {
            due("out(" + bad + ")", x.out(bad), NONE);
        }
    }

    private static void judged() {
        sentence("JUDGED; NONE if he has nothing there, or one can't be.");
        LentHands x = people(2, 0);
        tell(x, 2, "hand when held < 99; none;");
        x.leave(1, 0);
        due("the first", x.judged(0, 0, 0), 0);
        due("the last", x.judged(1, 1, 99), 3);
        due("nothing there", x.judged(1, 0, 0), NONE);
        for (int bad : beside(1)) {
            due("judged(" + bad + ", 1, 0)", x.judged(bad, 1, 0), NONE);
            due("judged(0, " + bad + ", 0)", x.judged(0, bad, 0), NONE);
            due("judged(1, " + bad + ", 0)", x.judged(1, bad, 0), NONE);
        }
        for (int bad : beside(99)) {
            due("judged(0, 0, " + bad + ")", x.judged(0, 0, bad), NONE);
        }

        sentence("LOOPHOLE; NONE if there is none, he has nothing there, or one can't be.");
        due("the first", x.loophole(0, 0), 99);
        due("the last", x.loophole(1, 1), 99);
        due("nothing there", x.loophole(1, 0), NONE);
        for (int bad : beside(1)) {
            due("loophole(" + bad + ", 1)", x.loophole(bad, 1), NONE);
            due("loophole(0, " + bad + ")", x.loophole(0, bad), NONE);
            due("loophole(1, " + bad + ")", x.loophole(1, bad), NONE);
        }
        tell(x, 2, "hand when held < 100; none;");
        due("there is none", x.loophole(0, 0), NONE);

        sentence("PREMIUM; NONE if one can't be.");
        tell(x, 1, "scar 100;");
        due("three on wrists", x.premium(0, 1), 300000);
        due("kind 3, no hours", x.premium(3, 0), 0);
        due("99 hours", x.premium(3, 99) > 2999900, true);
        for (int bad : beside(3)) {
            due("premium(" + bad + ", 1)", x.premium(bad, 1), NONE);
        }
        for (int bad : beside(99)) {
            due("premium(0, " + bad + ")", x.premium(0, bad), NONE);
        }
    }

    private static void chains() {
        sentence("CHAIN; NONE if there is none such.");
        LentHands x = people(2, 0);
        x.lend(3, 0, 9, 0);
        x.lend(3, 1, 9, 0);
        due("the eldest", x.chain(3, 0), 1);
        due("the next", x.chain(3, 1), 0);
        for (int bad : beside(1)) {
            due("chain(3, " + bad + ")", x.chain(3, bad), NONE);
        }
        for (int bad : beside(3)) {
            due("chain(" + bad + ", 0)", x.chain(bad, 0), NONE);
        }
        due("without a loan", x.chain(2, 0), NONE);

        sentence("OWES (what 0), LENT (1), as a set; NONE if there is none such, or another what.");
        due("owes", x.owes(0, 0), 0b1000);
        due("lent", x.owes(1, 1), 0b1000);
        for (int bad : beside(1)) {
            due("owes(" + bad + ", 0)", x.owes(bad, 0), NONE);
            due("owes(0, " + bad + ")", x.owes(0, bad), NONE);
        }

        sentence("CALLUS; NONE if all are where they were born.");
        due("the right one of 0, which 3 has pushed away, is", x.callus(), 1);
        x.fetch(0, 1);
        due("3 is home by its own loan", x.callus(), NONE);
        x.leave(1, 1);
        due("3 is not", x.callus(), 3);
    }

    private static void turns() {
        sentence("TURNS what 0 a's HOURS, 10 + i in HOUR i. NONE if one can't be, or another what.");
        LentHands x = new LentHands();
        due("a's hours", x.turnsOf(60, 9, 9, 0), 30);
        due("hour 0", x.turnsOf(60, 9, 9, 10), 0);
        due("hour 59", x.turnsOf(60, 9, 9, 69), 1);
        due("hour 0 of one", x.turnsOf(1, 1, 1, 10), 0);
        for (int bad : new int[] {-1, 1, 9, 70, MIN, MAX}) {
            due("turnsOf(60, 9, 9, " + bad + ")", x.turnsOf(60, 9, 9, bad), NONE);
        }
        due("hour 1 of one", x.turnsOf(1, 1, 1, 11), NONE);
        for (int bad : new int[] {0, -1, 10, MIN, MAX}) {
            due("turnsOf(5, " + bad + ", 1, 0)", x.turnsOf(5, bad, 1, 0), NONE);
            due("turnsOf(5, 1, " + bad + ", 0)", x.turnsOf(5, 1, bad, 0), NONE);
        }
        for (int bad : new int[] {0, -1, 61, MIN, MAX}) {
            due("turnsOf(" + bad + ", 1, 1, 0)", x.turnsOf(bad, 1, 1, 0), NONE);
            due("turnsOf(" + bad + ", 1, 1, 10)", x.turnsOf(bad, 1, 1, 10), NONE);
        }
    }

    private static void undone() {
        sentence("UNDO: true; false if there is nothing.");
        LentHands x = people(1, 0);
        due("nothing", x.undo(), false);
        x.hours(1);
        due("an hour", x.undo(), true);
        due("nothing", x.undo(), false);

        sentence("THE IMAGE is taken (true), or gone back to (false): true; false if there is none.");
        due("none", x.image(false), false);
        due("taken", x.image(true), true);
        x.hours(1);
        due("gone back to", x.image(false), true);
        due("look(1)", x.look(1), 0);
        due("once more", x.image(false), true);
    }

    private static void look() {
        sentence("What 0 PEOPLE, 1 HOUR, 2 LOANS, 3 lines of THE BOOK, 4 STATE, 5 to 7 lines of LAWS 0 to 2, 8 of BOOKINGS, 9 of WORKS,"
            + " 10 what can be undone, 11 HANDS in the OFFICE (a set). NONE for another what. (STATE as it is.)");
        LentHands x = people(8, 0);
        x.state(-1);
        tell(x, 0, "may; may;");
        tell(x, 1, "pay 1; pay 1; pay 1;");
        tell(x, 2, times("hand;", 16));
        tell(x, 3, times("lend 0 to 0 at 0 for 1;", 16));
        tell(x, 4, times("work 0 needs 0 pays 0;", 8));
        x.hours(1);
        x.lend(1, 0, 9, 0);
        x.lend(1, 7, 9, 0);
        x.lend(1, 0, 9, 0);
        x.deed(0, 0);
        x.leave(0, 0);
        int[] want = {8, 1, 2, 1, -1, 2, 3, 16, 16, 8, 5, 0b1000000000000001};
        for (int what = 0; what < want.length; what++) {
            due("look(" + what + ")", x.look(what), want[what]);
        }
        for (int bad : beside(11)) {
            due("look(" + bad + ")", x.look(bad), NONE);
        }
    }
}
