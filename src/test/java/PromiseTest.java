/** For each promise of the document: ordinary calls, the edges it names, and wrong arguments, each worked out by hand. */
public final class PromiseTest extends Checks {
    public static void main(String[] args) {
        newObject();
        state();
        person();
        set();
        lend();
        leave();
        fetch();
        task();
        deed();
        hours();
        hoursOfTasks();
        hoursEndLoans();
        feed();
        end();
        textOfLaws();
        textFaults();
        textReckons();
        textOfTables();
        fault();
        of();
        at();
        loan();
        book();
        may();
        can();
        pay();
        back();
        where();
        fails();
        bare();
        whose();
        ask();
        learns();
        safe();
        finds();
        dear();
        wishes();
        spread();
        out();
        judged();
        loophole();
        premium();
        chain();
        owes();
        callus();
        turnsOf();
        undo();
        image();
        look();
        close();
    }

    // ---- 1 to 4 ----

    private static void newObject() {
        about("promise 1");
        LentHands x = new LentHands();
        for (int what = 0; what < 12; what++) {
            due("look(" + what + ")", x.look(what), 0);
        }
        due("of(0, 0)", x.of(0, 0), NO);
        due("at(0, 0)", x.at(0, 0), NO);
        due("loan(0, 0)", x.loan(0, 0), NONE);
        due("book(0, 0)", x.book(0, 0), NONE);
        due("undo()", x.undo(), false);
        due("image(false)", x.image(false), false);
        due("hours(1)", x.hours(1), 0);
        due("callus()", x.callus(), NONE);
        due("NONE", LentHands.NONE, -1);
    }

    private static void state() {
        about("promise 2");
        LentHands x = people(1, 0);
        due("state(7)", x.state(7), 0);
        due("state(MIN)", x.state(Integer.MIN_VALUE), 7);
        due("look(4)", x.look(4), Integer.MIN_VALUE);
        due("state(0)", x.state(0), Integer.MIN_VALUE);
        // A DRAW from 0: 1013904223, its highest 24 bits 3960563: 563 of a thousand.
        tell(x, 1, "scar 563;");
        x.task(0, 0);
        x.leave(0, 1);
        x.hours(1);
        due("563 is not below 563", x.at(0, 5), 0);
        due("look(4)", x.look(4), 1013904223);
        x.state(0);
        tell(x, 1, "scar 564;");
        x.hours(1);
        due("563 is below 564", x.at(0, 5), 1);
        // From 1000: 2678429223 without sign, its highest 24 bits 10462614.
        x.state(1000);
        tell(x, 1, "scar 614;");
        x.hours(1);
        due("614 is not below 614", x.at(0, 5), 1);
        due("look(4)", x.look(4), -1616538073);
        x.state(1000);
        tell(x, 1, "scar 615;");
        x.hours(1);
        due("614 is below 615", x.at(0, 5), 2);
    }

    private static void person() {
        about("promise 3");
        LentHands x = new LentHands();
        due("coin -1", x.person(-1, 0), NONE);
        due("coin 10000", x.person(10000, 0), NONE);
        due("child -1", x.person(0, -1), NONE);
        due("child 2", x.person(0, 2), NONE);
        due("look(0)", x.look(0), 0);
        for (int i = 0; i < 8; i++) {
            due("the person", x.person(i % 2 == 0 ? 9999 : 0, i % 2), i);
        }
        due("the ninth", x.person(0, 0), NONE);
        due("look(0)", x.look(0), 8);
        due("coin", x.of(6, 0), 9999);
        due("child", x.of(7, 1), 1);
        due("no task", x.of(7, 2), NONE);
        due("no guilt", x.of(7, 3), 0);
        due("left", x.of(7, 4), 14);
        due("right", x.of(7, 5), 15);
        due("nowhere held", x.at(15, 7), 0);
        due("no marks", x.at(15, 6), 0);
    }

    private static void set() {
        about("promise 4");
        LentHands x = people(2, 0);
        due("coin", x.set(0, 1, 9999), true);
        due("coin told", x.of(1, 0), 9999);
        due("coin above", x.set(0, 1, 10000), false);
        due("coin below", x.set(0, 1, -1), false);
        due("coin as it was", x.of(1, 0), 9999);
        due("coin 0", x.set(0, 1, 0), true);
        due("coin told", x.of(1, 0), 0);
        due("child", x.set(1, 0, 1), true);
        due("child told", x.of(0, 1), 1);
        due("child 2", x.set(1, 0, 2), false);
        due("no such person", x.set(0, 2, 1), false);
        due("person -1", x.set(0, -1, 1), false);
        for (int k = 0; k < 4; k++) {
            due("skill", x.set(2 + k, 3, 99 - k), true);
            due("skill told", x.at(3, k), 99 - k);
            due("skill 100", x.set(2 + k, 3, 100), false);
        }
        due("skill 0", x.set(2, 3, 0), true);
        due("skill told", x.at(3, 0), 0);
        due("wear", x.set(6, 2, 99), true);
        due("wear told", x.at(2, 4), 99);
        due("wear 100", x.set(6, 2, 100), false);
        due("scars", x.set(7, 2, 9), true);
        due("scars told", x.at(2, 5), 9);
        due("scars 10", x.set(7, 2, 10), false);
        due("scars -1", x.set(7, 2, -1), false);
        due("hand 4", x.set(2, 4, 1), false);
        due("hand -1", x.set(2, -1, 1), false);
        due("what 8", x.set(8, 0, 1), false);
        due("what -1", x.set(-1, 0, 1), false);
        due("what far off", x.set(Integer.MAX_VALUE, 0, 1), false);
    }

    // ---- 5 to 10: acts ----

    private static void lend() {
        about("promise 5");
        LentHands x = people(4, 100);
        due("no such hand", x.lend(8, 0, 1, 0), NONE);
        due("hand -1", x.lend(-1, 0, 1, 0), NONE);
        due("no such person", x.lend(0, 4, 1, 0), NONE);
        due("person -1", x.lend(0, -1, 1, 0), NONE);
        due("0 hours", x.lend(0, 1, 0, 0), NONE);
        due("100 hours", x.lend(0, 1, 100, 0), NONE);
        due("price -1", x.lend(0, 1, 1, -1), NONE);
        due("price 100", x.lend(0, 1, 1, 100), NONE);
        due("to himself", x.lend(0, 0, 1, 0), NONE);
        due("too dear", x.lend(0, 1, 2, 51), NONE);
        x.hours(1);
        due("just dear enough", x.lend(0, 1, 2, 50), 3);
        due("paid", x.of(1, 0), 0);
        due("got", x.of(0, 0), 200);
        due("his own is in the office", x.look(11), 4);
        due("not held there", x.at(2, 7), 0);
        due("not held here", x.at(0, 7), 0);
        due("empty now", x.of(0, 4), NONE);
        due("no longer his to lend", x.lend(2, 3, 1, 0), NONE);
        due("beyond its END", x.lend(0, 2, 3, 0), NONE);
        due("up to its END", x.lend(0, 2, 2, 0), 3);
        due("back to its own", x.lend(0, 0, 1, 0), 2);
        due("at home", x.of(0, 4), 0);
        due("three loans", x.at(0, 9), 3);
        x.set(0, 3, 9999);
        x.set(0, 2, 9000);
        due("rich", x.lend(5, 3, 99, 99), 100);
        due("9801 paid", x.of(3, 0), 198);
        due("9999 at most", x.of(2, 0), 9999);
        tell(x, 0, "bar when hours > 5; may when price = 7; bar;");
        due("barred", x.lend(6, 2, 6, 7), NONE);
        due("barred by the last", x.lend(6, 2, 5, 6), NONE);
        due("may", x.lend(6, 2, 5, 7), 6);
        x = people(2, 0);
        for (int i = 0; i < 16; i++) {
            due("loan " + i, x.lend(0, 1 - i % 2, 9, 0), 9);
        }
        due("the 17th", x.lend(3, 0, 9, 0), NONE);
        due("16", x.look(2), 16);
        x.hours(9);
        due("all ended", x.look(2), 0);
        due("home", x.at(0, 8), 0);
    }

    private static void leave() {
        about("promise 6");
        LentHands x = people(2, 0);
        x.hours(2);
        due("leave", x.leave(1, 0), true);
        due("in the office", x.at(2, 8), NONE);
        due("not held", x.at(2, 7), 0);
        due("nothing there", x.leave(1, 0), false);
        x.lend(0, 1, 5, 0);
        due("not born with it", x.leave(1, 0), false);
        due("side 2", x.leave(0, 2), false);
        due("side -1", x.leave(1, -1), false);
        due("person 2", x.leave(2, 0), false);
        due("person -1", x.leave(-1, 1), false);
        due("the other is there", x.leave(0, 1), true);
        due("office", x.look(11), 6);
    }

    private static void fetch() {
        about("promise 7");
        LentHands x = people(3, 0);
        due("nothing to fetch", x.fetch(0, 0), false);
        x.leave(0, 0);
        due("the other side", x.fetch(0, 1), false);
        due("fetch", x.fetch(0, 0), true);
        due("on his wrist", x.of(0, 4), 0);
        due("not held", x.at(0, 7), 0);
        x.leave(0, 0);
        x.lend(2, 0, 3, 0);
        due("not empty", x.fetch(0, 0), false);
        due("lent, not in the office", x.fetch(1, 0), false);
        x.lend(4, 0, 3, 0);
        due("pushed into the office", x.fetch(1, 0), true);
        due("home", x.of(1, 4), 2);
        due("side 2", x.fetch(0, 2), false);
        due("side -1", x.fetch(0, -1), false);
        due("person 3", x.fetch(3, 0), false);
        due("person -1", x.fetch(-1, 0), false);
    }

    private static void task() {
        about("promise 8");
        LentHands x = people(1, 0);
        due("kind 3", x.task(0, 3), true);
        due("told", x.of(0, 2), 3);
        due("kind 4", x.task(0, 4), false);
        due("kind -2", x.task(0, -2), false);
        due("as it was", x.of(0, 2), 3);
        due("none", x.task(0, NONE), true);
        due("none told", x.of(0, 2), NONE);
        due("no such person", x.task(1, 0), false);
        due("person -1", x.task(-1, 0), false);
    }

    private static void deed() {
        about("promise 9");
        LentHands x = people(3, 50);
        due("the head's without a law", x.deed(0, 0), 1);
        due("guilt", x.of(0, 3), 1);
        tell(x, 2, "none when own = 1 and left = 1; hand when price = 3; both when held > 1 or scars = 2;");
        due("none", x.deed(1, 0), 3);
        due("no guilt", x.of(1, 3), 0);
        due("head, no line holds", x.deed(1, 1), 1);
        x.lend(0, 2, 4, 3);
        due("hand", x.deed(2, 0), 0);
        due("his who was born with it", x.of(0, 3), 2);
        due("not his", x.of(2, 3), 0);
        x.lend(0, 1, 4, 2);
        due("the latest price counts", x.deed(1, 0), 1);
        x.hours(2);
        due("both", x.deed(1, 0), 2);
        due("who was born with it", x.of(0, 3), 3);
        due("who did it", x.of(1, 3), 3);
        due("both are one", x.deed(1, 1), 2);
        due("two more", x.of(1, 3), 5);
        due("nothing there", x.deed(0, 0), NONE);
        due("side 2", x.deed(0, 2), NONE);
        due("side -1", x.deed(1, -1), NONE);
        due("person 3", x.deed(3, 0), NONE);
        due("person -1", x.deed(-1, 0), NONE);
        due("lines", x.look(3), 7);
    }

    private static void hours() {
        about("promise 10");
        LentHands x = people(3, 10);
        due("0", x.hours(0), NONE);
        due("101", x.hours(101), NONE);
        due("-1", x.hours(-1), NONE);
        due("far off", x.hours(Integer.MAX_VALUE), NONE);
        due("100", x.hours(100), 0);
        due("look(1)", x.look(1), 100);
        due("held", x.at(0, 7), 100);
        due("marks", x.at(4, 6), 4);
        tell(x, 3, "lend 0 to 1 at 101 for 2 price 5; lend 0 to 2 at 101 for 3; lend 0 to 2 at 101 for 2 price 1;"
            + "lend 2 to 0 at 101 for 1; lend 5 to 0 at 99 for 1;");
        due("none told at this hour", x.hours(1), 0);
        due("two fail", x.hours(1), 2);
        due("loans", x.look(2), 2);
        due("at 2's", x.at(0, 8), 2);
        due("paid on", x.of(1, 0), 2);
        due("marked by him who has it then", x.at(0, 6), 5);
        due("many hours", x.hours(3), 0);
        for (int i = 0; i < 98; i++) {
            x.hours(100);
        }
        due("look(1)", x.look(1), 9905);
        due("beyond", x.hours(95), NONE);
        due("not moved", x.look(1), 9905);
        due("up to the last", x.hours(94), 0);
        due("look(1)", x.look(1), 9999);
        due("no more", x.hours(1), NONE);
    }

    private static void hoursOfTasks() {
        about("promise 10");
        LentHands x = people(3, 0);
        x.set(4, 0, 97);
        x.set(6, 0, 95);
        x.set(0, 0, 9950);
        tell(x, 1, "learn 12 when left = 1; learn 0 - 5; learn 3; wear 2 + 20; pay 200 when own = 1; pay 7; scar 0;");
        x.task(0, 2);
        x.lend(3, 2, 9, 0);
        x.task(2, 0);
        x.hours(1);
        due("99 at most", x.at(0, 2), 99);
        due("only that kind", x.at(0, 1), 0);
        due("held to 0", x.at(1, 2), 0);
        due("wear 99 at most", x.at(0, 4), 99);
        due("wear 9 at most an hour", x.at(1, 4), 9);
        due("coin 9999 at most", x.of(0, 0), 9999);
        due("9 at most an hour", x.at(4, 0), 9);
        due("99 for the own, 7 for the other", x.of(2, 0), 106);
        due("no task, no wear", x.at(2, 4), 0);
        due("no draw for 0", x.look(4), 0);
        due("the office does not work", x.at(5, 4), 0);
        // All four are asked ahead of what they change.
        x = people(1, 0);
        tell(x, 1, "learn 5; wear skill + 1; pay worn * 10 + skill; scar 1000 when worn = 0 and skill = 0;");
        x.task(0, 1);
        x.leave(0, 1);
        x.hours(1);
        due("wear by the skill ahead", x.at(0, 4), 1);
        due("pay by what was ahead", x.of(0, 0), 0);
        due("scarred", x.at(0, 5), 1);
        x.hours(1);
        due("wear", x.at(0, 4), 7);
        due("pay", x.of(0, 0), 15);
        due("not scarred", x.at(0, 5), 1);
        // Left then right, PERSON by PERSON, a DRAW each.
        x = people(2, 0);
        tell(x, 1, "scar 564 when held = 0; scar 594;");
        x.task(0, 0);
        x.task(1, 0);
        x.hours(1);
        long draws = 0;
        for (int hand = 0; hand < 4; hand++) {
            draws = 1664525L * draws + 1013904223L & 0xffffffffL;
            due("scar of hand " + hand, x.at(hand, 5), draws / 256 % 1000 < 564 ? 1 : 0);
        }
        due("four draws", x.look(4), (int) draws);
        x = people(1, 0);
        x.set(7, 0, 9);
        tell(x, 1, "scar 2000;");
        x.task(0, 0);
        x.hours(1);
        due("9 scars at most", x.at(0, 5), 9);
        due("a thousand scars each", x.at(1, 5), 1);
        // What the law of hands asks.
        x = people(2, 0);
        x.person(0, 1);
        x.hours(4);
        x.lend(2, 0, 20, 0);
        x.hours(3);
        tell(x, 1, "pay hour * 10 + held when left = 1 and own = 0; pay kind when child = 1; learn scars; wear child + kind;");
        x.set(7, 1, 4);
        x.task(0, 3);
        x.task(2, 2);
        x.hours(1);
        due("hour 7, held 3", x.of(0, 0), 73);
        due("kind twice", x.of(2, 0), 4);
        due("by scars", x.at(1, 3), 4);
        due("by child and kind", x.at(4, 4), 3);
        due("by kind", x.at(1, 4), 3);
    }

    private static void hoursEndLoans() {
        about("promise 10");
        // The wrist of FROM is taken meanwhile: the HAND goes to the OFFICE, and not to its own.
        LentHands x = people(4, 0);
        x.lend(0, 1, 9, 0);
        x.lend(0, 2, 2, 0);
        x.lend(6, 1, 9, 0);
        x.hours(1);
        due("held there", x.at(0, 7), 1);
        x.hours(1);
        due("office, as 1's wrist is not empty", x.at(0, 8), NONE);
        due("not held", x.at(0, 7), 0);
        due("2 has his own again", x.of(2, 4), 4);
        due("two loans stand", x.look(2), 2);
        due("in their order", x.loan(0, 0), 0);
        due("the other behind", x.loan(1, 0), 6);
        x.hours(7);
        due("home by its first loan", x.at(0, 8), 0);
        due("home", x.at(6, 8), 3);
        due("1 has his own again", x.at(2, 8), 1);
        due("none stands", x.look(2), 0);
        // Those that end in one HOUR: the latest first, so that a whole chain comes home.
        x = people(3, 0);
        x.lend(1, 1, 3, 0);
        x.lend(1, 2, 3, 0);
        x.hours(3);
        due("home at once", x.at(1, 8), 0);
        due("1's own", x.at(3, 8), 1);
        due("2's own", x.at(5, 8), 2);
        // Fetched home meanwhile, the HAND is taken and put again: HELD begins anew.
        x = people(3, 0);
        x.lend(0, 1, 5, 0);
        x.lend(4, 1, 9, 0);
        x.fetch(0, 0);
        x.hours(4);
        due("held at home", x.at(0, 7), 4);
        x.hours(1);
        due("at home", x.at(0, 8), 0);
        due("held anew", x.at(0, 7), 0);
        due("1 still has the other", x.of(1, 4), 4);
        // Lent back to who was born with it: from the OFFICE it comes to him again.
        x = people(3, 0);
        x.lend(0, 1, 5, 0);
        x.lend(0, 0, 2, 0);
        x.lend(4, 1, 5, 0);
        x.hours(2);
        due("from the office to its own", x.at(0, 8), 0);
        // What he left himself comes back to him, too, when a LOAN to him ends.
        x = people(2, 0);
        x.leave(1, 0);
        x.lend(0, 1, 1, 0);
        x.hours(1);
        due("left, but it comes", x.of(1, 4), 2);
    }

    // ---- 11 to 14: texts ----

    private static void feed() {
        about("promise 11");
        LentHands x = people(1, 0);
        due("feed", x.feed(0x6d61793b, 0x6d61793b, 0, -1, 0x80000000), 20);
        x.end(8);
        due("the highest byte first", x.text(0), 2);
        for (int i = 1; i <= 20; i++) {
            due("feed", x.feed(0x20202020, 0x20202020, 0x20202020, 0x20202020, 0x20202020), 20 * i);
        }
        due("full", x.feed(1, 2, 3, 4, 5), NONE);
        due("all still there", x.end(400), true);
        due("end", x.end(381), true);
        due("one too many", x.feed(1, 2, 3, 4, 5), NONE);
        due("381 still", x.end(382), false);
        due("end", x.end(380), true);
        due("just room", x.feed(0x20202020, 0x20202020, 0x20202020, 0x20202020, 0x20206d61), 400);
        faultyTape(x, 0, 1, 398);
        due("feed", x.feed(0x6d6179ff, 0, 0, 0, 0), 20);
        x.end(4);
        faultyTape(x, 0, 1, 3);
    }

    private static void faultyTape(LentHands x, int k, int number, int place) {
        due("text(" + k + ")", x.text(k), NONE);
        due("fault(0)", x.fault(0), number);
        due("fault(1)", x.fault(1), place);
    }

    private static void end() {
        about("promise 12");
        LentHands x = new LentHands();
        due("empty", x.end(0), true);
        due("1", x.end(1), false);
        due("-1", x.end(-1), false);
        x.feed(0x6d61793b, 0x6d61793b, 0x6d61793b, 0, 0);
        due("21", x.end(21), false);
        due("-1", x.end(-1), false);
        due("MIN", x.end(Integer.MIN_VALUE), false);
        due("20", x.end(20), true);
        due("12", x.end(12), true);
        due("13", x.end(13), false);
        due("its first 12", x.text(0), 3);
    }

    private static void textOfLaws() {
        about("promise 13");
        LentHands x = people(1, 0);
        due("empty", x.text(0), 0);
        due("no such text", x.text(5), NONE);
        due("text -1", x.text(-1), NONE);
        due("16 lines", tell(x, 0, times("may;", 16)), 16);
        due("look(5)", x.look(5), 16);
        faulty(x, 0, times("may;", 17), 3, 64);
        faulty(x, 1, times("pay 1;", 17), 3, 96);
        faulty(x, 2, times("both;", 17), 3, 80);
        faulty(x, 0, times("may;", 16) + "pay;", 1, 64);
        due("as it was", x.look(5), 16);
        due("tape is empty", x.end(1), false);
        due("blanks and line ends", tell(x, 0, "\n may\n when 1=1 \n; bar ;\n\n"), 2);
        due("no blanks", tell(x, 0, "may when 1=1or 2=2and(not 3<1);"), 1);
        due("hands", tell(x, 1, "learn skill+worn-scars*own/2 when left=held; wear child; scar kind; pay hour;"), 4);
        due("guilt", tell(x, 2, "hand when own=best; head when held<price; both when child>scars; none when left=1;"), 4);
        due("loans", tell(x, 0, "bar when left+best+worn+scars+hours+price+coin+child+own+chain<0;"), 1);
        x.feed(0x6d617931, 0, 0, 0, 0);
        due("no such one", x.text(7), NONE);
        due("tells 0", x.fault(0), 0);
        due("no place", x.fault(1), NONE);
        due("tape is empty then, too", x.end(1), false);
    }

    private static void textFaults() {
        about("promise 13");
        LentHands x = people(2, 0);
        faulty(x, 0, "may", 1, 3);
        faulty(x, 0, "may  ", 1, 5);
        faulty(x, 0, "May;", 1, 0);
        faulty(x, 0, "may\t;", 1, 3);
        faulty(x, 0, "may\r;", 1, 3);
        faulty(x, 0, "may when;", 1, 8);
        faulty(x, 0, "may when left;", 1, 13);
        faulty(x, 0, "may when lefts = 1;", 1, 9);
        faulty(x, 0, "may when left = 1", 1, 17);
        faulty(x, 0, "may when left = 1 2;", 1, 18);
        faulty(x, 0, "may when left = 1);", 1, 17);
        faulty(x, 0, "may when (left = 1;", 1, 18);
        faulty(x, 0, "may when (left) = 1;", 1, 14);
        faulty(x, 0, "may when left = (1);", 1, 16);
        faulty(x, 0, "may when left = 1 = 1;", 1, 18);
        faulty(x, 0, "may when - 1 = 1;", 1, 9);
        faulty(x, 0, "may when left = not 1 = 1;", 1, 16);
        faulty(x, 0, "may when left / best = 1;", 1, 16);
        faulty(x, 0, "may when left / 0 = 1;", 2, 16);
        faulty(x, 0, "may when left / 0000 foo", 2, 16);
        faulty(x, 0, "may when left * 0 / 12345 = 1;", 1, 20);
        faulty(x, 0, "may when 00001 = 1;", 1, 9);
        faulty(x, 0, "may when 1 >= 1;", 1, 12);
        faulty(x, 0, "may when 1 = 1 and;", 1, 18);
        faulty(x, 0, "may when 1 = 1 or or 1 = 1;", 1, 18);
        faulty(x, 0, "may; ;", 1, 5);
        faulty(x, 0, "may 1;", 1, 4);
        faulty(x, 0, "may whenleft = 1;", 1, 4);
        faulty(x, 0, "may when held = 1;", 1, 9);
        faulty(x, 1, "learn hours;", 1, 6);
        faulty(x, 1, "learn when 1 = 1;", 1, 6);
        faulty(x, 1, "learn 1 = 1;", 1, 8);
        faulty(x, 1, "learn (1);", 1, 6);
        faulty(x, 1, "may;", 1, 0);
        faulty(x, 2, "hand when worn = 1;", 1, 10);
        faulty(x, 2, "may;", 1, 0);
        faulty(x, 0, "may when \u00e9 = 1;", 1, 9);
        faulty(x, 0, "may when 1 = 1 / 0;", 2, 17);
        faulty(x, 1, "learn 1 / 0;", 2, 10);
        // Letters of any kind run on: the whole run is no KEYWORD.
        for (String run : new String[] {"mayz;", "mayZ;", "mayA;", "maya;", "amay;", "Zmay;"}) {
            faulty(x, 0, run, 1, 0);
        }
        // A sign is never taken for a word, whatever its number is.
        faulty(x, 4, "work 0 ! 0 pays 0;", 1, 7);
        faulty(x, 0, "may \016 1 = 1;", 1, 4);
        faulty(x, 0, "may when left = 1 \017 1 = 1;", 1, 18);
        faulty(x, 3, "\034 0 to 1 at 0 for 1;", 1, 0);
        faulty(x, 0, "\0", 1, 0);
        // Eight may be open; they are counted together, and closed again.
        due("8 ( open", tell(x, 0, "may when " + times("(", 8) + "1=1" + times(")", 8) + ";"), 1);
        due("8 not open", tell(x, 0, "may when " + times("not ", 8) + "1=1;"), 1);
        faulty(x, 0, "may when " + times("(", 9) + "1=1" + times(")", 9) + ";", 3, 17);
        faulty(x, 0, "may when " + times("not ", 9) + "1=1;", 3, 41);
        faulty(x, 0, "may when " + times("not(", 4) + "not 1=1" + times(")", 4) + ";", 3, 25);
        due("one behind the other", tell(x, 0, "may when " + times("not(not 1=1)and ", 10) + "1=1;"), 1);
        due("closed with its C", tell(x, 0, "may when " + times("not ", 8) + "1=1 and " + times("not ", 8) + "1=1;"), 1);
        faulty(x, 0, "may when (" + times("not ", 7) + "1=1 and " + times("not ", 8) + "1=1);", 3, 74);
        due("nothing stayed of those", x.look(5), 1);
        wholeTapes(x);
    }

    private static void wholeTapes(LentHands x) {
        for (int k = 0; k < 5; k++) {
            faulty(x, k, times(";", 400), 1, 0);
        }
        due("100 times may", tell(x, 0, "may when 1=1" + times("or 1=1", 64) + "   ;"), 1);
        due("it holds", x.may(0, 1, 1, 0), 1);
        due("a long sum", tell(x, 0, "may when 0" + times("+1", 190) + "=190;"), 1);
        due("it holds", x.may(0, 1, 1, 0), 1);
        due("a long product", tell(x, 0, "bar when 7" + times("*1", 189) + "/7=1 ;"), 1);
        due("it holds", x.may(0, 1, 1, 0), 0);
        // What lies on the TAPE behind its end is not read.
        x.feed(0x6d617920, 0x7768656e, 0x20313233, 0x34353637, 0);
        x.end(13);
        faultyTape(x, 0, 1, 13);
        x.feed(0x6d617920, 0x7768656e, 0x206c6566, 0x7474743b, 0);
        x.end(13);
        faultyTape(x, 0, 1, 13);
    }

    /** Whether B holds, told as a LAW that else bars: coin 20, hours 3, price 4, one SKILL 60, wear 7. */
    private static void holds(String b, boolean want) {
        LentHands x = people(2, 20);
        x.set(5, 0, 60);
        x.set(6, 0, 7);
        due("lines of " + b, tell(x, 0, "may when " + b + "; bar;"), 2);
        due(b, x.may(0, 1, 3, 4), want ? 1 : 0);
    }

    private static void textReckons() {
        about("promise 13");
        holds("2 + 3 * 4 = 14", true);
        holds("20 - 3 - 4 = 13", true);
        holds("20 / 3 * 3 = 18", true);
        holds("2 * 7 / 4 = 3", true);
        holds("0 - 7 / 2 = 0 - 3", true);
        holds("0 * 1 - 7 + 7 = 0", true);
        holds("worn - 14 + 0 < 0", true);
        // 9999 * 9999 * 22 is 2199560022: above 2147483647, so that it wraps to -2095407274.
        holds("9999 * 9999 * 22 < 0", true);
        holds("9999 * 9999 * 22 / 1000 / 1000 = 0 - 2095", true);
        holds("1 = 2 and 1 = 2 or 1 = 1", true);
        holds("1 = 1 or 1 = 1 and 1 = 2", true);
        holds("(1 = 1 or 1 = 1) and 1 = 2", false);
        holds("not 1 = 2 and 1 = 1", true);
        holds("not (1 = 2 or 1 = 1)", false);
        holds("not 1 = 1 or 1 = 1", true);
        holds("not not 1 = 1", true);
        holds("1 < 1", false);
        holds("1 > 1", false);
        holds("2 > 1 and 1 < 2", true);
        holds("left = 1 and best = 60 and worn = 7 and scars = 0", true);
        holds("hours = 3 and price = 4 and coin = 20 and child = 0", true);
        holds("own = 0 and chain = 0", true);
        holds("007 = worn", true);
        holds("not (1 = 1 and (not 1 = 2))", false);
        holds("1 = 1 and (1 = 2)", false);
        holds("1 = 2 or (1 = 1 and (1 = 2 or 2 = 2))", true);
        LentHands x = people(2, 20);
        x.set(2, 0, 61);
        x.set(2, 1, 99);
        tell(x, 0, "may when best = 61; bar when left = 0; may when best = 99; bar;");
        due("the greatest is of kind 0", x.may(0, 1, 1, 0), 1);
        due("a right hand", x.may(1, 1, 1, 0), 0);
        due("no skill", x.may(2, 1, 1, 0), 0);
        tell(x, 0, "may when best = 0; bar;");
        due("best is 0", x.may(2, 1, 1, 0), 1);
    }

    private static void textOfTables() {
        about("promise 13");
        LentHands x = people(2, 0);
        due("bookings", tell(x, 3, "lend 3 to 1 at 9999 for 99 price 99; lend 0 to 0 at 0 for 1;"), 2);
        due("price 0", tell(x, 3, "lend 3 to 1 at 9999 for 99 price 0;"), 1);
        faulty(x, 3, "lend 4 to 1 at 0 for 1;", 2, 5);
        faulty(x, 3, "lend 3 to 2 at 0 for 1;", 2, 10);
        faulty(x, 3, "lend 3 to 1 at 10000 for 1;", 1, 15);
        faulty(x, 3, "lend 3 to 1 at 0 for 0;", 2, 21);
        faulty(x, 3, "lend 3 to 1 at 0 for 100;", 2, 21);
        faulty(x, 3, "lend 3 to 1 at 0 for 1 price 100;", 2, 29);
        faulty(x, 3, "lend 3 to 1 at 0 for 1 price;", 1, 28);
        faulty(x, 3, "lend 3 to 1 at 0 for 1 when;", 1, 23);
        faulty(x, 3, "lend 3 at 0 to 1 for 1;", 1, 7);
        faulty(x, 3, "lend left to 1 at 0 for 1;", 1, 5);
        faulty(x, 3, "work 0 needs 0 pays 0;", 1, 0);
        faulty(x, 3, "lend 3 to 1 at 0 for 1", 1, 22);
        String line = "lend 0 to 1 at 0 for 1;";
        due("16 lines", tell(x, 3, times(line, 16)), 16);
        faulty(x, 3, times(line, 16) + "lend", 3, 16 * 23);
        faulty(x, 3, times(line, 16) + "bend", 1, 16 * 23);
        due("as it was", x.look(8), 16);
        LentHands nobody = new LentHands();
        faulty(nobody, 3, line, 2, 5);
        due("works", tell(x, 4, "work 3 needs 99 pays 99 both; work 0 needs 0 pays 0;"), 2);
        faulty(x, 4, "work 4 needs 0 pays 0;", 2, 5);
        faulty(x, 4, "work 0 needs 100 pays 0;", 2, 13);
        faulty(x, 4, "work 0 needs 0 pays 100;", 2, 20);
        faulty(x, 4, "work 0 pays 0 needs 0;", 1, 7);
        faulty(x, 4, "work 0 needs 0 pays 0 both both;", 1, 27);
        faulty(x, 4, "work 0 needs 0 pays 0 none;", 1, 22);
        faulty(x, 4, "lend 0 to 1 at 0 for 1;", 1, 0);
        due("8 works", tell(x, 4, times("work 0 needs 0 pays 0;", 8)), 8);
        faulty(x, 4, times("work 0 needs 0 pays 0;", 9), 3, 176);
        due("as it was", x.look(9), 8);
        due("none", tell(x, 4, ""), 0);
        due("none told", x.look(9), 0);
    }

    private static void fault() {
        about("promise 14");
        LentHands x = people(1, 0);
        due("at first", x.fault(0), 0);
        due("at first", x.fault(1), NONE);
        tell(x, 0, "may may;");
        due("fault", x.fault(0), 1);
        due("place", x.fault(1), 4);
        due("what 2", x.fault(2), NONE);
        due("what -1", x.fault(-1), NONE);
        x.image(true);
        tell(x, 0, "may;");
        due("none", x.fault(0), 0);
        due("no place", x.fault(1), NONE);
        tell(x, 0, "bar when 1 / 0 = 1;");
        x.image(false);
        due("not in the image", x.fault(0), 2);
        due("nor its place", x.fault(1), 13);
    }

    // ---- 15 to 18 ----

    private static void of() {
        about("promise 15");
        LentHands x = people(4, 5);
        due("what 8", x.of(0, 8), NO);
        due("what -1", x.of(0, -1), NO);
        due("no such", x.of(4, 0), NO);
        due("person -1", x.of(-1, 0), NO);
        due("his own", x.of(0, 6), 1);
        x.lend(0, 1, 9, 0);
        due("nothing there", x.of(0, 6), 0);
        due("goes to one with nothing", x.of(1, 6), 0);
        x.fetch(1, 0);
        x.lend(4, 0, 9, 0);
        x.lend(1, 1, 9, 0);
        due("left", x.of(1, 4), 0);
        due("right", x.of(1, 5), 1);
        due("others go on", x.of(3, 7), 1);
        // 0 has 4 of 2, 1 has 0 of 0; 2 gets 2 of 1, who has it not: only through the OFFICE and back.
        x = people(3, 0);
        x.leave(1, 0);
        x.lend(0, 1, 9, 0);
        x.lend(4, 0, 9, 0);
        due("2 has nothing", x.of(0, 6), 0);
        x = people(3, 0);
        x.lend(0, 1, 9, 0);
        x.lend(4, 0, 9, 0);
        x.lend(0, 2, 9, 0);
        x.lend(4, 1, 9, 0);
        x.lend(0, 0, 9, 0);
        due("own again", x.of(0, 6), 1);
        x.lend(0, 1, 9, 0);
        x.fetch(2, 0);
        due("2 has his own", x.of(2, 6), 1);
        due("1's goes to 0, who has nothing", x.of(1, 6), 0);
        // A ring of two: 1 has 0's, 0 gets 1's as it goes home by way of 2.
        x = people(3, 0);
        x.lend(2, 2, 9, 0);
        x.lend(0, 1, 9, 0);
        x.lend(2, 0, 9, 0);
        due("0 has 1's", x.of(0, 4), 2);
        due("1 has 0's", x.of(1, 4), 0);
        due("ring of 0", x.of(0, 6), 2);
        due("ring of 1", x.of(1, 6), 2);
        due("2 stands alone with nothing", x.of(2, 6), 0);
        due("task", x.of(0, 2), NONE);
    }

    private static void at() {
        about("promise 16");
        LentHands x = people(2, 50);
        x.set(5, 3, 44);
        x.set(6, 3, 55);
        x.set(7, 3, 6);
        x.hours(2);
        x.lend(3, 0, 9, 1);
        x.lend(3, 1, 8, 1);
        x.hours(1);
        int[] want = {0, 0, 0, 44, 55, 6, 2, 1, 1, 2, 10};
        for (int what = 0; what < want.length; what++) {
            due("at(3, " + what + ")", x.at(3, what), want[what]);
        }
        due("office", x.at(1, 8), NONE);
        due("no loan", x.at(1, 10), NONE);
        due("what 11", x.at(3, 11), NO);
        due("what -1", x.at(3, -1), NO);
        due("hand 4", x.at(4, 0), NO);
        due("hand -1", x.at(-1, 0), NO);
    }

    private static void loan() {
        about("promise 17");
        LentHands x = people(3, 50);
        x.hours(1);
        x.lend(3, 0, 9, 1);
        x.lend(4, 1, 2, 7);
        int[] want = {4, 2, 1, 3, 7};
        for (int what = 0; what < want.length; what++) {
            due("loan(1, " + what + ")", x.loan(1, what), want[what]);
        }
        due("what 5", x.loan(1, 5), NONE);
        due("what -1", x.loan(1, -1), NONE);
        due("loan 2", x.loan(2, 0), NONE);
        due("loan -1", x.loan(-1, 0), NONE);
        x.hours(2);
        due("ended", x.loan(1, 0), NONE);
        due("the other stands", x.loan(0, 0), 3);
    }

    private static void book() {
        about("promise 18");
        LentHands x = people(2, 0);
        x.hours(3);
        x.deed(0, 0);
        x.lend(1, 1, 5, 0);
        tell(x, 2, "hand;");
        x.deed(1, 1);
        int[] want = {3, 1, 1, 0};
        for (int what = 0; what < want.length; what++) {
            due("book(1, " + what + ")", x.book(1, what), want[what]);
        }
        due("what 4", x.book(1, 4), NONE);
        due("what -1", x.book(1, -1), NONE);
        due("line 2", x.book(2, 0), NONE);
        due("line -1", x.book(-1, 0), NONE);
        for (int i = 2; i < 100; i++) {
            x.deed(0, 0);
        }
        due("100 lines", x.look(3), 100);
        due("the last", x.book(99, 3), 0);
        due("still a deed", x.deed(1, 0), 0);
        due("and guilt", x.of(1, 3), 1);
        due("no line more", x.look(3), 100);
        due("none", x.book(100, 0), NONE);
        due("the last as it was", x.book(99, 2), 0);
    }

    // ---- 19 to 25 ----

    private static void may() {
        about("promise 19");
        LentHands x = people(2, 0);
        due("no law", x.may(0, 1, 99, 99), 1);
        tell(x, 0, "bar when own = 1; may when hours < 5; bar;");
        due("not asked for coin", x.may(0, 1, 4, 99), 1);
        due("5 hours", x.may(0, 1, 5, 0), 0);
        due("who has it", x.may(0, 0, 1, 0), 0);
        x.leave(0, 0);
        due("in the office", x.may(0, 1, 4, 0), 1);
        tell(x, 0, "bar when own = 1;");
        due("no line holds", x.may(0, 1, 4, 0), 1);
        due("hours 0", x.may(0, 1, 0, 0), NONE);
        due("hours 100", x.may(0, 1, 100, 0), NONE);
        due("price -1", x.may(0, 1, 1, -1), NONE);
        due("price 100", x.may(0, 1, 1, 100), NONE);
        due("hand 4", x.may(4, 1, 1, 0), NONE);
        due("hand -1", x.may(-1, 1, 1, 0), NONE);
        due("person 2", x.may(0, 2, 1, 0), NONE);
        due("person -1", x.may(0, -1, 1, 0), NONE);
        x = people(3, 0);
        x.person(0, 1);
        x.lend(0, 1, 5, 0);
        tell(x, 0, "bar when chain = 1; bar when child = 1; may;");
        due("chain", x.may(0, 2, 1, 0), 0);
        due("child", x.may(2, 3, 1, 0), 0);
        due("else", x.may(2, 0, 1, 0), 1);
    }

    private static void can() {
        about("promise 20");
        LentHands x = people(2, 0);
        x.set(3, 0, 50);
        x.set(3, 1, 40);
        tell(x, 4, "work 1 needs 50 pays 1; work 1 needs 51 pays 1; work 1 needs 40 pays 1 both; work 1 needs 41 pays 1 both;"
            + "work 2 needs 0 pays 1; work 2 needs 0 pays 1 both;");
        int[] want = {1, 0, 1, 0, 1, 1};
        for (int i = 0; i < want.length; i++) {
            due("can(0, " + i + ")", x.can(0, i), want[i]);
        }
        x.leave(0, 0);
        due("not with the other", x.can(0, 0), 0);
        due("one hand", x.can(0, 4), 1);
        due("not both", x.can(0, 5), 0);
        x.leave(0, 1);
        due("no hand", x.can(0, 4), 0);
        due("work 6", x.can(0, 6), NONE);
        due("work -1", x.can(0, -1), NONE);
        due("person 2", x.can(2, 0), NONE);
        due("person -1", x.can(-1, 0), NONE);
    }

    private static void pay() {
        about("promise 21");
        LentHands x = people(3, 0);
        due("no works", x.pay(0), 0);
        x.set(2, 0, 50);
        x.set(2, 2, 60);
        x.set(3, 4, 10);
        tell(x, 4, "work 0 needs 50 pays 9; work 0 needs 60 pays 5; work 1 needs 10 pays 0; work 1 needs 0 pays 2;");
        due("sum", x.pay(0), 16);
        due("the lesser person", x.pay(10), 0);
        due("the other", x.pay(11), 1);
        due("none ahead of all, as it pays 0", x.pay(12), NONE);
        due("who is left", x.pay(13), 2);
        due("what 14", x.pay(14), NONE);
        due("what 1", x.pay(1), NONE);
        due("what -1", x.pay(-1), NONE);
        due("what far off", x.pay(Integer.MAX_VALUE), NONE);
        tell(x, 4, "work 0 needs 0 pays 3; work 0 needs 0 pays 3; work 0 needs 0 pays 3; work 0 needs 0 pays 3;");
        due("sum", x.pay(0), 9);
        due("none first", x.pay(10), NONE);
        due("then the least", x.pay(11), 0);
        due("then the next", x.pay(12), 1);
        due("then the last", x.pay(13), 2);
        tell(x, 4, "work 0 needs 60 pays 3; work 0 needs 60 pays 4;");
        due("only one can", x.pay(0), 4);
        due("not this", x.pay(10), NONE);
        due("this", x.pay(11), 1);
        x = people(8, 0);
        tell(x, 4, times("work 0 needs 0 pays 99;", 8));
        due("eight do eight", x.pay(0), 792);
        for (int i = 0; i < 8; i++) {
            due("work " + i, x.pay(10 + i), i);
        }
        due("what 18", x.pay(18), NONE);
    }

    private static void back() {
        about("promise 22");
        LentHands x = people(3, 100);
        x.hours(2);
        due("now", x.back(), 2);
        x.lend(0, 1, 7, 0);
        due("at its END", x.back(), 9);
        due("nothing stays", x.look(1), 2);
        tell(x, 3, "lend 0 to 2 at 8 for 1; lend 3 to 0 at 8 for 4;");
        due("a booking goes on", x.back(), 12);
        x.leave(2, 1);
        due("left for good", x.back(), NONE);
        x = people(5, 0);
        x.lend(0, 1, 99, 0);
        tell(x, 3, "lend 2 to 0 at 99 for 99; lend 3 to 1 at 99 for 99; lend 4 to 1 at 100 for 99; lend 6 to 2 at 198 for 99;"
            + "lend 3 to 0 at 198 for 99; lend 5 to 0 at 296 for 3; lend 5 to 0 at 299 for 1;");
        due("300 more", x.back(), 99);
        x.lend(5, 0, 98, 0);
        x.leave(4, 1);
        due("not by then", x.back(), NONE);
        // Home at 300 exactly, and not within 300 when an HOUR later.
        x = people(3, 0);
        tell(x, 3, "lend 2 to 1 at 98 for 50; lend 4 to 0 at 98 for 99; lend 3 to 0 at 196 for 99; lend 4 to 0 at 294 for 6;");
        x.lend(0, 1, 99, 0);
        due("a chain of bookings", x.back(), 300);
        x.undo();
        tell(x, 3, "lend 4 to 0 at 98 for 99; lend 3 to 0 at 196 for 99; lend 4 to 0 at 294 for 7;");
        x.lend(0, 1, 99, 0);
        due("301 is too far", x.back(), NONE);
        x.hours(1);
        due("300 from 1 on", x.back(), 301);
        // In thought no HAND is scarred, so that the law lets the booking be.
        x = people(2, 0);
        tell(x, 0, "bar when scars > 0;");
        tell(x, 1, "scar 1000;");
        x.lend(0, 1, 3, 0);
        x.task(1, 0);
        tell(x, 3, "lend 3 to 0 at 2 for 4;");
        due("not scarred in thought", x.back(), 6);
    }

    private static void where() {
        about("promise 23");
        LentHands x = people(3, 9);
        x.lend(0, 1, 4, 0);
        tell(x, 3, "lend 0 to 2 at 1 for 2 price 4;");
        int[] want = {1, 1, 2, 1, 0};
        for (int n = 0; n < want.length; n++) {
            due("where(0, " + n + ")", x.where(0, n), want[n]);
        }
        due("in the office", x.where(2, 3), NONE);
        due("home", x.where(2, 300), 1);
        due("nothing stays", x.of(2, 0), 9);
        due("301", x.where(0, 301), NO);
        due("-1", x.where(0, -1), NO);
        due("hand 6", x.where(6, 0), NO);
        due("hand -1", x.where(-1, 0), NO);
        // In thought no HAND is scarred and nothing is drawn, but tasks pay and wear.
        x = people(2, 0);
        tell(x, 0, "bar when scars > 0;");
        tell(x, 1, "scar 1000; pay 2;");
        x.task(1, 0);
        tell(x, 3, "lend 0 to 1 at 2 for 4 price 2;");
        due("paid by the tasks", x.where(0, 3), 1);
        due("no draw", x.look(4), 0);
        due("no coin", x.of(1, 0), 0);
        tell(x, 3, "lend 2 to 0 at 2 for 4;");
        due("not scarred in thought", x.where(2, 3), 0);
    }

    private static void fails() {
        about("promise 24");
        LentHands x = people(3, 3);
        due("none", x.fails(0), NONE);
        due("none", x.fails(1), NONE);
        tell(x, 3, "lend 1 to 1 at 7 for 1; lend 1 to 1 at 7 for 1; lend 2 to 0 at 5 for 3 price 1; lend 2 to 1 at 5 for 3 price 3;");
        due("the hour first", x.fails(0), 3);
        due("its hour", x.fails(1), 5);
        due("what 2", x.fails(2), NONE);
        due("what -1", x.fails(-1), NONE);
        x.hours(6);
        due("then the other", x.fails(0), 1);
        due("its hour", x.fails(1), 7);
        x = people(1, 0);
        tell(x, 3, "lend 0 to 0 at 300 for 1; lend 1 to 0 at 300 for 1;");
        due("not within 300", x.fails(0), NONE);
        x.hours(1);
        due("within 300", x.fails(0), 0);
        due("its hour", x.fails(1), 300);
        due("it will", x.hours(100) + x.hours(100) + x.hours(99), 0);
        due("it does", x.hours(1), 2);
        x = people(2, 0);
        tell(x, 0, "bar when scars > 0;");
        tell(x, 1, "scar 1000;");
        x.task(1, 0);
        tell(x, 3, "lend 3 to 0 at 2 for 4;");
        due("not scarred in thought", x.fails(0), NONE);
        due("but then", x.hours(3), 1);
    }

    private static void bare() {
        about("promise 25");
        LentHands x = people(3, 0);
        due("none", x.bare(), 0);
        x.leave(0, 0);
        due("one is enough", x.bare(), 0);
        x.leave(0, 1);
        due("nothing counts as not", x.bare(), 1);
        x.lend(2, 2, 5, 0);
        x.lend(3, 2, 5, 0);
        due("both of another", x.bare(), 7);
        x.fetch(1, 0);
        due("not in the office", x.bare(), 7);
        x.fetch(0, 1);
        due("one again", x.bare(), 6);
    }

    // ---- 26 to 31 ----

    private static void whose() {
        about("promise 26");
        LentHands x = people(3, 0);
        x.lend(0, 1, 5, 0);
        x.hours(1);
        x.lend(0, 2, 4, 0);
        x.hours(1);
        due("all", x.whose(0), 63);
        due("1's marks", x.whose(2), 9);
        due("2's marks", x.whose(4), 49);
        due("1's and 2's", x.whose(6), 1);
        due("all three", x.whose(7), 0);
        due("no such people", x.whose(8), NONE);
        due("-1", x.whose(-1), NONE);
        due("MIN", x.whose(Integer.MIN_VALUE), NONE);
        x = people(8, 0);
        x.hours(1);
        due("all", x.whose(0), 65535);
        due("the first", x.whose(1), 3);
        due("the last", x.whose(128), 0b1100000000000000);
        due("256", x.whose(256), NONE);
    }

    private static void ask() {
        about("promise 27");
        LentHands x = people(3, 0);
        due("nothing tells them apart: the least", x.ask(63), 0);
        x.hours(1);
        due("0, 1 and 2, 3", x.ask(15), 0);
        due("of 2, 3, 4, 5", x.ask(60), 1);
        due("of 0, 2, 3: one of them is the greater part by both", x.ask(13), 0);
        due("of 4, 5 none tells", x.ask(48), 0);
        x.lend(0, 1, 9, 0);
        x.lend(5, 1, 9, 0);
        x.hours(1);
        due("two of four by 1", x.ask(0b110011), 0);
        due("of 0, 4, 5", x.ask(0b110001), 0);
        due("of 4, 5 by 1", x.ask(48), 1);
        due("one alone", x.ask(4), NONE);
        due("none", x.ask(0), NONE);
        due("a hand that is not", x.ask(65), NONE);
        due("-1", x.ask(-1), NONE);
        due("MIN", x.ask(Integer.MIN_VALUE + 3), NONE);
        x = people(8, 0);
        due("all sixteen", x.ask(65535), 0);
        due("more", x.ask(65539), NONE);
    }

    private static void learns() {
        about("promise 28");
        LentHands x = people(2, 0);
        due("no law", x.learns(0, 0, 99), 0);
        tell(x, 1, "learn 2 when skill < 6; learn hour when hour = 3; learn kind + held; wear 5; learn 9 when worn = 30;");
        due("0 hours", x.learns(0, 0, 0), 0);
        due("3 hours", x.learns(0, 0, 3), 6);
        due("hour 3", x.learns(0, 0, 4), 9);
        due("held 4", x.learns(0, 0, 5), 13);
        due("kind 2", x.learns(0, 2, 5), 15);
        due("99 at most", x.learns(0, 3, 99), 99);
        due("nothing stays", x.at(0, 0), 0);
        due("nor of wear", x.at(0, 4), 0);
        tell(x, 1, "learn 1 when worn > 9; wear 5;");
        due("wear as it would be", x.learns(0, 0, 3), 1);
        due("kind 4", x.learns(0, 4, 1), NONE);
        due("kind -1", x.learns(0, -1, 1), NONE);
        due("n 100", x.learns(0, 0, 100), NONE);
        due("n -1", x.learns(0, 0, -1), NONE);
        due("hand 4", x.learns(4, 0, 1), NONE);
        due("hand -1", x.learns(-1, 0, 1), NONE);
        x.leave(0, 1);
        due("in the office", x.learns(1, 0, 1), NONE);
        // LOANS do not end meanwhile, and it is who has it that counts.
        tell(x, 1, "learn 1 when own = 0;");
        x.lend(0, 1, 2, 0);
        due("by who has it", x.learns(0, 0, 9), 9);
    }

    private static void safe() {
        about("promise 29");
        LentHands x = people(2, 0);
        due("no law", x.safe(0, 0, 99), 1000000);
        tell(x, 1, "scar 333;");
        due("0 hours", x.safe(0, 0, 0), 1000000);
        due("1", x.safe(0, 0, 1), 667000);
        due("2", x.safe(0, 0, 2), 444889);
        due("3, downwards", x.safe(0, 0, 3), 296740);
        tell(x, 1, "scar 2000 when held = 3; scar 0 - 7 when hour = 1; scar 10 * worn; wear 9; learn 1;");
        due("worn 0", x.safe(1, 0, 1), 1000000);
        due("held to 0", x.safe(1, 0, 2), 1000000);
        due("worn 18", x.safe(1, 0, 3), 820000);
        due("held to 1000", x.safe(1, 0, 4), 0);
        due("no draw", x.look(4), 0);
        due("no scar", x.at(1, 5), 0);
        due("n 100", x.safe(0, 0, 100), NONE);
        due("n -1", x.safe(0, 0, -1), NONE);
        due("kind 4", x.safe(0, 4, 1), NONE);
        due("kind -1", x.safe(0, -1, 1), NONE);
        due("hand 4", x.safe(4, 0, 1), NONE);
        due("hand -1", x.safe(-1, 0, 1), NONE);
        x.leave(0, 0);
        due("in the office", x.safe(0, 0, 1), NONE);
    }

    private static void finds() {
        about("promise 30");
        LentHands x = people(3, 0);
        x.set(4, 0, 70);
        x.set(4, 3, 80);
        x.set(4, 4, 80);
        due("the least", x.finds(2, 2, 70, 5), 0);
        due("80", x.finds(2, 2, 80, 5), 3);
        due("another one's", x.finds(1, 2, 80, 5), 4);
        due("81", x.finds(0, 2, 81, 5), NONE);
        due("any", x.finds(0, 2, -5, 5), 2);
        tell(x, 0, "bar when own = 0 and hours > 3 and best = 70;");
        due("barred", x.finds(2, 2, 70, 4), 3);
        due("not for 3", x.finds(2, 2, 70, 3), 0);
        x.lend(0, 1, 2, 0);
        due("its END", x.finds(2, 2, 70, 3), 3);
        due("by its END", x.finds(2, 2, 70, 2), 0);
        x.leave(1, 1);
        due("not from the office", x.finds(2, 2, 80, 1), NONE);
        due("hours 0", x.finds(2, 2, 0, 0), NONE);
        due("hours 100", x.finds(2, 2, 0, 100), NONE);
        due("kind 4", x.finds(2, 4, 0, 1), NONE);
        due("kind -1", x.finds(2, -1, 0, 1), NONE);
        due("person 3", x.finds(3, 2, 0, 1), NONE);
        due("person -1", x.finds(-1, 2, 0, 1), NONE);
        x = people(8, 0);
        due("the first", x.finds(1, 0, 0, 1), 0);
        x.set(2, 15, 1);
        due("the last", x.finds(0, 0, 1, 1), 15);
        due("none of sixteen", x.finds(0, 0, 2, 1), NONE);
    }

    private static void dear() {
        about("promise 31");
        LentHands x = people(3, 50);
        due("what he has", x.dear(0, 1, 5), 10);
        due("downwards", x.dear(0, 1, 6), 8);
        due("99 hours", x.dear(0, 1, 99), 0);
        x.set(0, 1, 9999);
        due("99 at most", x.dear(0, 1, 99), 99);
        tell(x, 0, "bar when price > 30 or price < 20;");
        due("by the law", x.dear(0, 1, 1), 30);
        due("below 20 the law bars", x.dear(0, 2, 3), NONE);
        due("to himself", x.dear(0, 0, 1), NONE);
        x.lend(0, 1, 3, 20);
        due("beyond its END", x.dear(0, 2, 4), NONE);
        due("in the office", x.dear(2, 0, 1), NONE);
        due("hours 0", x.dear(4, 1, 0), NONE);
        due("hours 100", x.dear(4, 1, 100), NONE);
        due("hand 6", x.dear(6, 1, 1), NONE);
        due("hand -1", x.dear(-1, 1, 1), NONE);
        due("person 3", x.dear(4, 3, 1), NONE);
        due("person -1", x.dear(4, -1, 1), NONE);
    }

    // ---- 32 to 41 ----

    private static void wish(LentHands x, int person, int work, int count, int left, int right) {
        due("wishes(" + person + ", " + work + ", 0)", x.wishes(person, work, 0), count);
        due("wishes(" + person + ", " + work + ", 1)", x.wishes(person, work, 1), left);
        due("wishes(" + person + ", " + work + ", 2)", x.wishes(person, work, 2), right);
    }

    private static void wishes() {
        about("promise 32");
        LentHands x = people(4, 0);
        x.set(2, 0, 50);
        x.set(2, 1, 50);
        x.set(2, 4, 60);
        x.set(2, 5, 55);
        tell(x, 4, "work 0 needs 50 pays 1; work 0 needs 50 pays 1 both; work 0 needs 60 pays 1; work 0 needs 61 pays 1;"
            + "work 0 needs 0 pays 1; work 0 needs 51 pays 1 both;");
        wish(x, 0, 0, 0, NONE, NONE);
        wish(x, 1, 0, 1, NONE, 1);
        wish(x, 1, 1, 2, 0, 1);
        wish(x, 1, 2, 1, 4, NONE);
        wish(x, 1, 3, NO, NO, NO);
        wish(x, 1, 4, 0, NONE, NONE);
        wish(x, 0, 5, 2, 4, 5);
        x.set(2, 2, 99);
        wish(x, 1, 1, 1, NONE, 1);
        wish(x, 1, 5, 1, NONE, 5);
        x.leave(0, 0);
        x.set(2, 2, 0);
        wish(x, 1, 1, 2, 4, 1);
        due("nothing stays", x.look(2), 0);
        tell(x, 0, "bar when left = 1;");
        wish(x, 1, 1, NO, NO, NO);
        tell(x, 0, "bar when hours > 1 or price > 0;");
        wish(x, 1, 1, 2, 4, 1);
        due("what 3", x.wishes(1, 1, 3), NO);
        due("what -1", x.wishes(1, 1, -1), NO);
        due("work 6", x.wishes(1, 6, 0), NO);
        due("work -1", x.wishes(1, -1, 0), NO);
        due("person 4", x.wishes(4, 1, 0), NO);
        due("person -1", x.wishes(-1, 1, 0), NO);
        // With 15 LOANS one more can be, but not two.
        x = people(4, 0);
        x.set(2, 4, 9);
        x.set(2, 5, 9);
        tell(x, 4, "work 0 needs 9 pays 1; work 0 needs 9 pays 1 both;");
        for (int i = 0; i < 15; i++) {
            x.lend(6, i % 2, 9, 0);
        }
        wish(x, 1, 0, 1, NONE, 5);
        wish(x, 1, 1, NO, NO, NO);
    }

    private static void spread() {
        about("promise 33");
        LentHands x = people(3, 0);
        x.set(5, 1, 30);
        x.set(5, 4, 40);
        due("30", x.spread(3, 30), 5);
        due("31", x.spread(3, 31), 4);
        due("41", x.spread(3, 41), 0);
        due("any", x.spread(3, -9), 7);
        x.lend(4, 1, 9, 0);
        due("who has it", x.spread(3, 31), 2);
        due("with what he has else", x.spread(3, 0), 7);
        x.leave(0, 1);
        due("not the office", x.spread(3, 30), 2);
        x = people(8, 0);
        x.set(2, 0, 5);
        x.set(2, 15, 5);
        due("the first and the last", x.spread(0, 5), 0b10000001);
        due("kind 4", x.spread(4, 0), NONE);
        due("kind -1", x.spread(-1, 0), NONE);
    }

    private static void out() {
        about("promise 34");
        LentHands x = people(3, 0);
        due("none", x.out(0), 0);
        x.lend(0, 1, 2, 0);
        x.leave(2, 1);
        tell(x, 3, "lend 3 to 0 at 1 for 300;");
        due("as it was", x.look(8), 0);
        tell(x, 3, "lend 3 to 0 at 1 for 99;");
        due("now", x.out(0), 0b100101);
        due("2", x.out(2), 0b101010);
        due("1 on", x.out(1), 0b100101);
        due("99", x.out(99), 0b101010);
        due("100", x.out(100), 0b100000);
        due("300", x.out(300), 0b100000);
        due("301", x.out(301), NONE);
        due("-1", x.out(-1), NONE);
    }

    private static void judged() {
        about("promise 35");
        LentHands x = people(3, 9);
        due("no law", x.judged(0, 0, 5), 1);
        x.lend(0, 1, 9, 1);
        x.hours(2);
        tell(x, 2, "none when held = 101; hand when held > 4; both when child = 1; head when price = 1; hand;");
        due("0", x.judged(1, 0, 0), 1);
        due("2", x.judged(1, 0, 2), 1);
        due("3", x.judged(1, 0, 3), 0);
        due("99", x.judged(1, 0, 99), 3);
        due("100", x.judged(1, 0, 100), NONE);
        due("-1", x.judged(1, 0, -1), NONE);
        due("no price", x.judged(1, 1, 0), 0);
        x.set(1, 1, 1);
        due("child", x.judged(1, 0, 0), 2);
        due("nothing there", x.judged(0, 0, 0), NONE);
        due("side 2", x.judged(1, 2, 0), NONE);
        due("person 3", x.judged(3, 0, 0), NONE);
        due("person -1", x.judged(-1, 0, 0), NONE);
        due("no guilt", x.of(1, 3), 0);
        due("no line", x.look(3), 0);
    }

    private static void loophole() {
        about("promise 36");
        LentHands x = people(2, 0);
        due("no law", x.loophole(0, 0), NONE);
        tell(x, 2, "head when held < 3; hand when held = 3; head when held < 99; none when own = 1 and held > 99;");
        due("3 more", x.loophole(0, 0), 3);
        x.hours(3);
        due("it is another's at once", x.loophole(0, 0), 1);
        x.hours(1);
        due("100 in all", x.loophole(0, 0), 96);
        tell(x, 2, "hand when held > 102;");
        due("99 more", x.loophole(0, 1), 99);
        tell(x, 2, "hand when held > 103;");
        due("100 more", x.loophole(0, 1), NONE);
        x.leave(0, 0);
        due("nothing there", x.loophole(0, 0), NONE);
        due("side 2", x.loophole(0, 2), NONE);
        due("side -1", x.loophole(0, -1), NONE);
        due("person 2", x.loophole(2, 0), NONE);
        due("person -1", x.loophole(-1, 0), NONE);
    }

    private static void premium() {
        about("promise 37");
        LentHands x = people(2, 0);
        due("no law", x.premium(0, 99), 0);
        tell(x, 1, "scar 100 * kind when left = 1; scar 10;");
        due("0 hours", x.premium(1, 0), 0);
        due("1 hour", x.premium(1, 1), 220000);
        due("2 hours", x.premium(1, 2), 2 * 190000 + 2 * 19900);
        due("kind 3", x.premium(3, 1), 620000);
        x.leave(0, 0);
        due("not the office", x.premium(1, 1), 120000);
        due("kind 4", x.premium(4, 1), NONE);
        due("kind -1", x.premium(-1, 1), NONE);
        due("n 100", x.premium(0, 100), NONE);
        due("n -1", x.premium(0, -1), NONE);
        due("nobody", new LentHands().premium(0, 9), 0);
        // HOUR and WEAR of one HAND begin where they are, whatever was thought of another.
        tell(x, 1, "scar 500 when hour = 0 and worn = 0; wear 3;");
        due("each from now on", x.premium(1, 3), 1500000);
    }

    private static void chain() {
        about("promise 38");
        LentHands x = people(4, 0);
        due("none", x.chain(0, 0), NONE);
        x.lend(0, 1, 9, 0);
        x.lend(5, 0, 9, 0);
        x.lend(0, 3, 8, 0);
        x.lend(0, 2, 7, 0);
        due("eldest", x.chain(0, 0), 0);
        due("next", x.chain(0, 1), 1);
        due("latest", x.chain(0, 2), 3);
        due("no more", x.chain(0, 3), NONE);
        due("i -1", x.chain(0, -1), NONE);
        due("another hand", x.chain(5, 0), 2);
        due("hand 8", x.chain(8, 0), NONE);
        due("hand -1", x.chain(-1, 0), NONE);
        x.hours(7);
        due("ended", x.chain(0, 2), NONE);
    }

    private static void owes() {
        about("promise 39");
        LentHands x = people(3, 0);
        x.lend(0, 1, 9, 0);
        x.lend(5, 1, 9, 0);
        x.lend(0, 2, 8, 0);
        due("to 1", x.owes(1, 0), 33);
        due("from 1", x.owes(1, 1), 1);
        due("to 2", x.owes(2, 0), 1);
        due("from 2", x.owes(2, 1), 32);
        due("to 0", x.owes(0, 0), 0);
        due("from 0", x.owes(0, 1), 1);
        due("what 2", x.owes(0, 2), NONE);
        due("what -1", x.owes(0, -1), NONE);
        due("person 3", x.owes(3, 0), NONE);
        due("person -1", x.owes(-1, 0), NONE);
    }

    private static void callus() {
        about("promise 40");
        LentHands x = people(3, 0);
        x.set(6, 5, 99);
        due("all at home", x.callus(), NONE);
        x.lend(3, 0, 9, 0);
        due("the least, in the office, too", x.callus(), 1);
        x.set(6, 3, 1);
        due("the greatest wear", x.callus(), 3);
        x.set(6, 1, 1);
        due("of several the least", x.callus(), 1);
        x.leave(2, 1);
        due("the office", x.callus(), 5);
        x.set(6, 0, 99);
        x.leave(0, 0);
        due("hand 0 is the least", x.callus(), 0);
    }

    private static void turnsOf() {
        about("promise 41");
        LentHands x = new LentHands();
        due("one hour", x.turnsOf(1, 1, 9, 0), 1);
        due("1 to 9", x.turnsOf(60, 1, 9, 0), 6);
        due("9 to 1", x.turnsOf(60, 9, 1, 0), 54);
        // 3 to 2: a b a b a, and so on.
        int[] want = {0, 1, 0, 1, 0, 0, 1, 0, 1, 0};
        for (int i = 0; i < want.length; i++) {
            due("hour " + i, x.turnsOf(10, 3, 2, 10 + i), want[i]);
        }
        due("beyond", x.turnsOf(10, 3, 2, 20), NONE);
        due("what 1", x.turnsOf(10, 3, 2, 1), NONE);
        due("what 9", x.turnsOf(10, 3, 2, 9), NONE);
        due("what -1", x.turnsOf(10, 3, 2, -1), NONE);
        due("n 0", x.turnsOf(0, 1, 1, 0), NONE);
        due("n 61", x.turnsOf(61, 1, 1, 0), NONE);
        due("n 60", x.turnsOf(60, 1, 1, 69), 1);
        due("c 0", x.turnsOf(1, 0, 1, 0), NONE);
        due("c 10", x.turnsOf(1, 10, 1, 0), NONE);
        due("d 0", x.turnsOf(1, 1, 0, 0), NONE);
        due("d 10", x.turnsOf(1, 1, 10, 0), NONE);
    }

    // ---- 42 to 44 ----

    private static void undo() {
        about("promise 42");
        LentHands x = people(2, 20);
        due("nothing", x.undo(), false);
        tell(x, 1, "scar 1000; pay 3;");
        x.task(0, 1);
        x.deed(0, 0);
        x.lend(3, 0, 4, 2);
        x.leave(1, 0);
        x.fetch(1, 0);
        x.hours(1);
        due("six", x.look(10), 6);
        due("scarred", x.at(3, 5), 1);
        due("the hour", x.undo(), true);
        due("not scarred", x.at(3, 5), 0);
        due("STATE", x.look(4), 0);
        due("not paid", x.of(0, 0), 12);
        due("not marked", x.at(3, 6), 0);
        due("the fetching", x.undo(), true);
        due("in the office", x.at(2, 8), NONE);
        due("the leaving", x.undo(), true);
        due("on the wrist", x.at(2, 8), 1);
        due("the loan", x.undo(), true);
        due("no loan", x.look(2), 0);
        due("coin", x.of(0, 0), 20);
        due("own", x.at(1, 8), 0);
        due("the deed", x.undo(), true);
        due("no line", x.look(3), 0);
        due("no guilt", x.of(0, 3), 0);
        due("the task", x.undo(), true);
        due("no task", x.of(0, 2), NONE);
        due("no more", x.undo(), false);
        // HOUR by HOUR, six at most, also out of many.
        x.hours(9);
        due("six", x.look(10), 6);
        for (int i = 0; i < 6; i++) {
            due("an hour", x.undo(), true);
            due("look(1)", x.look(1), 8 - i);
        }
        due("no more", x.undo(), false);
        x.task(0, 0);
        x.hours(2);
        due("three", x.look(10), 3);
        // What can't be done, is asked, or is fed, forgets nothing; nor do LAWS, WORKS, the taking of the IMAGE.
        x.lend(0, 0, 1, 0);
        x.leave(0, 5);
        x.fetch(0, 0);
        x.task(0, 9);
        x.deed(0, 9);
        x.hours(0);
        x.person(-1, 0);
        x.set(0, 0, -1);
        x.back();
        x.image(true);
        tell(x, 0, "may;");
        tell(x, 1, "");
        tell(x, 2, "head;");
        tell(x, 4, "work 0 needs 0 pays 0;");
        tell(x, 3, "lend;");
        x.text(9);
        due("three still", x.look(10), 3);
        due("an hour", x.undo(), true);
        due("laws stay", x.look(5), 1);
        due("two", x.look(10), 2);
        // The BOOK goes back and goes on.
        x.deed(0, 0);
        x.undo();
        x.deed(1, 1);
        due("another line", x.book(0, 2), 1);
        due("one line", x.look(3), 1);
        // All else that is told forgets.
        for (int way = 0; way < 6; way++) {
            x.task(0, 2);
            switch (way) {
                case 0: x.state(5); break;
                case 1: x.person(0, 0); break;
                case 2: x.set(1, 0, 1); break;
                case 3: x.set(2, 0, 1); break;
                case 4: tell(x, 3, ""); break;
                default: x.image(false); break;
            }
            due("way " + way, x.look(10), 0);
            due("way " + way, x.undo(), false);
        }
    }

    private static void image() {
        about("promise 43");
        LentHands x = people(2, 20);
        due("none", x.image(false), false);
        x.state(77);
        tell(x, 0, "bar;");
        tell(x, 1, "learn 1;");
        tell(x, 2, "hand;");
        tell(x, 3, "lend 2 to 0 at 5 for 1;");
        tell(x, 4, "work 0 needs 1 pays 1;");
        x.task(0, 1);
        x.hours(2);
        x.deed(0, 0);
        x.set(7, 3, 4);
        due("taken", x.image(true), true);
        for (int round = 0; round < 2; round++) {
            x.person(1, 1);
            x.state(round);
            for (int k = 0; k < 5; k++) {
                tell(x, k, "");
            }
            x.lend(0, 1, 3, 1);
            x.leave(0, 1);
            x.deed(1, 0);
            x.task(0, NONE);
            x.set(7, 3, 0);
            x.set(3, 0, 50);
            x.hours(3);
            x.feed(0x6d61793b, 0, 0, 0, 0);
            due("gone back", x.image(false), true);
            int[] want = {2, 2, 0, 1, 77, 1, 1, 1, 1, 1, 0, 0};
            for (int what = 0; what < want.length; what++) {
                due("look(" + what + ")", x.look(what), want[what]);
            }
            due("scars", x.at(3, 5), 4);
            due("skill", x.at(0, 1), 2);
            due("held", x.at(0, 7), 2);
            due("task", x.of(0, 2), 1);
            due("guilt", x.of(0, 3), 1);
            due("the line", x.book(0, 2), 0);
            due("the law", x.may(0, 1, 1, 0), 0);
            due("the booking", x.fails(1), 5);
            due("the work", x.can(0, 0), 0);
            due("the tape is not in it", x.end(20), true);
            x.end(0);
            due("nothing to undo", x.undo(), false);
        }
        x.person(3, 0);
        due("as new", x.of(2, 2), NONE);
        due("as new", x.at(5, 7), 0);
        x.image(true);
        x.person(3, 0);
        x.image(false);
        due("the later one", x.look(0), 3);
        // The BOOK is the image's own.
        x.deed(0, 0);
        x.image(true);
        x.image(false);
        x.deed(1, 1);
        x.undo();
        x.deed(2, 0);
        x.image(false);
        due("two lines", x.look(3), 2);
        due("none behind", x.book(2, 0), NONE);
    }

    private static void look() {
        about("promise 44");
        LentHands x = people(3, 9);
        x.state(-9);
        tell(x, 0, "may;");
        tell(x, 1, "pay 0; pay 0;");
        tell(x, 2, "hand; hand; hand;");
        tell(x, 3, "lend 0 to 0 at 0 for 1; lend 0 to 0 at 0 for 1;");
        tell(x, 4, "work 0 needs 0 pays 0;");
        x.hours(1);
        x.lend(0, 1, 1, 0);
        x.deed(1, 0);
        x.deed(1, 0);
        x.leave(2, 1);
        int[] want = {3, 1, 1, 2, -9, 1, 2, 3, 2, 1, 5, 0b100100};
        for (int what = 0; what < want.length; what++) {
            due("look(" + what + ")", x.look(what), want[what]);
        }
        due("look(12)", x.look(12), NONE);
        x.leave(0, 1);
        x.hours(1);
        due("the first and the last", x.look(11), 0b100010);
        x = people(8, 0);
        x.leave(0, 0);
        x.leave(7, 1);
        due("of sixteen", x.look(11), 0b1000000000000001);
        due("look(-1)", x.look(-1), NONE);
        due("look(MIN)", x.look(Integer.MIN_VALUE), NONE);
    }
}
