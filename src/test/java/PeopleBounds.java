/** "1. PEOPLE" and what stands ahead of it: each sentence just inside its bounds and just outside. */
final class PeopleBounds extends Sentences {
    static void run() {
        quotients();
        draws();
        people();
        hands();
        hour();
        loans();
    }

    private static void quotients() {
        sentence("Quotients go downwards.");
        LentHands x = people(1, 0);
        tell(x, 1, "scar 333;");
        due("667000 * 667 by 1000 goes out", x.safe(0, 0, 2), 444889);
        due("444889 * 667 by 1000 leaves 963", x.safe(0, 0, 3), 296740);
        tell(x, 1, "scar 999;");
        due("1000 * 1 by 1000", x.safe(0, 0, 2), 1);
        due("1 * 1 by 1000", x.safe(0, 0, 3), 0);
    }

    private static void draws() {
        sentence("STATE of draws (an int, 0 at first); a DRAW of m: it becomes 1664525 times itself + 1013904223 (ints, which wrap),"
            + " then it is its highest 24 bits (without sign) modulo m.");
        LentHands x = new LentHands();
        due("at first", x.look(4), 0);
        due("state(MAX)", x.state(MAX), 0);
        due("state(MIN)", x.state(MIN), MAX);
        due("state(-1)", x.state(-1), MIN);
        due("look(4)", x.look(4), -1);
        drawn(0, 563, 1013904223);
        // The last that does not wrap, and the first that does.
        drawn(681, 459, 2147445748);
        drawn(682, 962, -2145857023);
        drawn(-1, 61, 1012239698);
        drawn(MAX, 669, -1135243950);
        drawn(MIN, 171, -1133579425);
        drawn(1188, 999, -1303607373);
        drawn(945, 1, -1708086948);
    }

    /** By that STATE a DRAW of 1000 is rest: a HAND is not scarred by so many of a thousand, but by one more. */
    private static void drawn(int state, int rest, int after) {
        LentHands x = people(1, 0);
        x.leave(0, 1);
        x.task(0, 0);
        x.state(state);
        tell(x, 1, "scar " + rest + ";");
        x.hours(1);
        due(rest + " drawn from " + state + " is not below " + rest, x.at(0, 5), 0);
        due("STATE from " + state, x.look(4), after);
        x.state(state);
        tell(x, 1, "scar " + (rest + 1) + ";");
        x.hours(1);
        due(rest + " drawn from " + state + " is below " + (rest + 1), x.at(0, 5), 1);
        due("STATE from " + state, x.look(4), after);
    }

    private static void people() {
        sentence("==== 1. PEOPLE 0 .. 7 as they come:");
        LentHands x = new LentHands();
        due("of(0, 0), nobody there", x.of(0, 0), NO);
        for (int p = 0; p < 8; p++) {
            due("of(" + p + ", 0) ahead", x.of(p, 0), NO);
            due("person", x.person(10 + p, 0), p);
            due("of(" + p + ", 0)", x.of(p, 0), 10 + p);
        }
        due("the ninth", x.person(1, 0), NONE);
        due("look(0)", x.look(0), 8);
        due("of(8, 0)", x.of(8, 0), NO);

        sentence("COIN 0 .. 9999, CHILD 0, 1,");
        x = new LentHands();
        due("coin -1", x.person(-1, 0), NONE);
        due("coin 10000", x.person(10000, 1), NONE);
        due("child -1", x.person(0, -1), NONE);
        due("child 2", x.person(9999, 2), NONE);
        due("coin 0, child 0", x.person(0, 0), 0);
        due("coin 9999, child 1", x.person(9999, 1), 1);
        due("of(0, 0)", x.of(0, 0), 0);
        due("of(0, 1)", x.of(0, 1), 0);
        due("of(1, 0)", x.of(1, 0), 9999);
        due("of(1, 1)", x.of(1, 1), 1);
        bounded(x, 0, 0, 9999);
        bounded(x, 1, 1, 1);

        sentence("a TASK: a KIND 0 .. 3 or none (none at first), GUILT (0 at first).");
        x = people(1, 0);
        due("no task at first", x.of(0, 2), NONE);
        due("no guilt at first", x.of(0, 3), 0);
        due("kind -2", x.task(0, -2), false);
        due("kind 4", x.task(0, 4), false);
        due("still none", x.of(0, 2), NONE);
        due("kind 0", x.task(0, 0), true);
        due("of(0, 2)", x.of(0, 2), 0);
        due("kind 3", x.task(0, 3), true);
        due("of(0, 2)", x.of(0, 2), 3);
        due("none", x.task(0, NONE), true);
        due("of(0, 2)", x.of(0, 2), NONE);
        x.deed(0, 0);
        due("one more", x.of(0, 3), 1);
    }

    private static void hands() {
        sentence("HANDS 2 p and 2 p + 1: left and right of PERSON p, on his wrists at first:");
        LentHands x = people(8, 0);
        for (int p = 0; p < 8; p++) {
            due("left of " + p, x.of(p, 4), 2 * p);
            due("right of " + p, x.of(p, 5), 2 * p + 1);
            due("where " + 2 * p, x.at(2 * p, 8), p);
            due("where " + (2 * p + 1), x.at(2 * p + 1, 8), p);
        }
        due("hand -1", x.at(-1, 8), NO);
        due("hand 16", x.at(16, 8), NO);
        x = people(1, 0);
        due("hand 1", x.at(1, 8), 0);
        due("hand 2, not born yet", x.at(2, 8), NO);

        sentence("of each KIND a SKILL 0 .. 99, WEAR 0 .. 99, SCARS 0 .. 9,");
        for (int kind = 0; kind < 4; kind++) {
            bounded(x, 2 + kind, kind, 99);
        }
        bounded(x, 6, 4, 99);
        bounded(x, 7, 5, 9);

        sentence("MARKS (a set of PEOPLE), HELD: HOURS in a row on the wrist where it is (0 each, none at first).");
        x = people(8, 0);
        for (int what = 0; what < 8; what++) {
            due("at(0, " + what + ") at first", x.at(0, what), 0);
            due("at(15, " + what + ") at first", x.at(15, what), 0);
        }
        x.hours(1);
        due("held 1", x.at(15, 7), 1);
        due("marked by 7", x.at(15, 6), 128);
        x.hours(1);
        due("held 2", x.at(15, 7), 2);
        due("marked once for all", x.at(15, 6), 128);
        x.lend(15, 0, 1, 0);
        due("another wrist", x.at(15, 7), 0);
        due("not marked yet", x.at(15, 6), 128);
        x.hours(1);
        due("home again", x.at(15, 7), 0);
        due("marked by 0, too", x.at(15, 6), 129);

        sentence("A HAND is on the wrist of its side of a PERSON, or in the OFFICE.");
        x = people(2, 0);
        x.lend(1, 1, 5, 0);
        due("a right hand on the right wrist", x.of(1, 5), 1);
        due("the left wrist as it was", x.of(1, 4), 2);
        due("the other right hand in the office", x.at(3, 8), NONE);
        due("on no wrist", x.of(0, 5), NONE);
    }

    /** What is told of 0 (the PERSON, the HAND) is 0 to most, and is answered as told. */
    private static void bounded(LentHands x, int what, int asked, int most) {
        String set = "set(" + what + ", 0, ";
        due(set + most + ")", x.set(what, 0, most), true);
        due(set + (most + 1) + ")", x.set(what, 0, most + 1), false);
        due("the most", what < 2 ? x.of(0, asked) : x.at(0, asked), most);
        due(set + "0)", x.set(what, 0, 0), true);
        due(set + "-1)", x.set(what, 0, -1), false);
        due(set + "MIN)", x.set(what, 0, MIN), false);
        due(set + "MAX)", x.set(what, 0, MAX), false);
        due("the least", what < 2 ? x.of(0, asked) : x.at(0, asked), 0);
    }

    private static void hour() {
        sentence("HOUR 0 .. 9999 (0 at first).");
        LentHands x = people(1, 0);
        due("at first", x.look(1), 0);
        for (int i = 0; i < 99; i++) {
            x.hours(100);
        }
        x.hours(98);
        due("look(1)", x.look(1), 9998);
        due("2 more", x.hours(2), NONE);
        due("1 more", x.hours(1), 0);
        due("look(1)", x.look(1), 9999);
        due("none more", x.hours(1), NONE);
        due("look(1)", x.look(1), 9999);
        due("all of them held", x.at(0, 7), 9999);
    }

    private static void loans() {
        sentence("LOANS 0 .. 15 in the order in which they were made: HAND, FROM, TO, END (an HOUR), PRICE.");
        LentHands x = people(8, 999);
        x.hours(3);
        due("none yet", x.loan(0, 0), NONE);
        for (int i = 0; i < 16; i++) {
            int hand = i < 8 ? 13 : 14;
            int to = i < 8 ? i % 2 == 0 ? 7 : 6 : i % 2 == 0 ? 5 : 7;
            due("loan " + i, x.lend(hand, to, 20 - i, i), 23 - i);
            due("not the next", x.loan(i + 1, 0), NONE);
        }
        for (int i = 0; i < 16; i++) {
            int[] want = {i < 8 ? 13 : 14, i < 8 ? i % 2 == 0 ? 6 : 7 : i % 2 == 0 ? 7 : 5,
                i < 8 ? i % 2 == 0 ? 7 : 6 : i % 2 == 0 ? 5 : 7, 23 - i, i};
            for (int what = 0; what < 5; what++) {
                due("loan(" + i + ", " + what + ")", x.loan(i, what), want[what]);
            }
        }
        due("loan(15, 5)", x.loan(15, 5), NONE);
        due("loan(16, 0)", x.loan(16, 0), NONE);
        due("loan(-1, 0)", x.loan(-1, 0), NONE);
        due("a 17th", x.lend(0, 1, 1, 0), NONE);
    }
}
