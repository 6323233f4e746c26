/** UNDO and THE IMAGE, as "4. IN THOUGHT" ends: what goes back and what does not, how far, and what forgets it. */
final class UndoBounds extends Sentences {
    static void run() {
        sentence("UNDO: the latest LOAN, LEAVING, FETCHING, TASK, DEED, HOUR not undone yet goes back (STATE, THE BOOK, too): 6 are kept;"
            + " whatever else is told but LAWS, WORKS (the taking of THE IMAGE does not) forgets them.");
        eachGoesBack();
        theLastGoesBack();
        sixAreKept();
        forgets();
        doesNotForget();
        sentence("THE IMAGE: all that is and was told but the TAPE, fault() and what can be undone (nothing then),"
            + " as it was when it was taken; gone back to it may be more than once.");
        imageOfAll();
        imageOfTheBook();
        imagesTaken();
    }

    private static void eachGoesBack() {
        for (int act = 0; act < 6; act++) {
            LentHands x = people(3, 60);
            x.lend(1, 2, 9, 1);
            x.leave(0, 0);
            x.leave(1, 0);
            x.task(1, 3);
            x.hours(2);
            tell(x, 1, "scar 1000; learn 2; wear 3; pay 4;");
            tell(x, 2, "both;");
            String ahead = all(x);
            switch (act) {
                case 0: due("lend", x.lend(1, 0, 3, 5), 5); break;
                case 1: due("leave", x.leave(2, 0), true); break;
                case 2: due("fetch", x.fetch(0, 0), true); break;
                case 3: due("task", x.task(2, 0), true); break;
                case 4: due("deed", x.deed(2, 1), 2); break;
                default: due("hours", x.hours(1), 0); break;
            }
            due("act " + act + " changes something", all(x).equals(ahead), false);
            due("undo of act " + act, x.undo(), true);
            due("all as ahead of act " + act, all(x).equals(ahead), true);
            due("what is left to undo", x.look(10), 5);
        }
    }

    /** What the six acts of three PEOPLE can change; some 35 calls. */
    private static String all(LentHands x) {
        StringBuilder s = new StringBuilder();
        for (int what : new int[] {1, 2, 3, 4, 11}) {
            s.append(x.look(what)).append(' ');
        }
        for (int p = 0; p < 3; p++) {
            s.append(x.of(p, 0)).append(' ').append(x.of(p, 2)).append(' ').append(x.of(p, 3)).append(' ');
            s.append(x.of(p, 4)).append(' ').append(x.of(p, 5)).append(' ');
        }
        for (int hand = 1; hand < 6; hand += 2) {
            for (int what = 3; what < 9; what++) {
                s.append(x.at(hand, what)).append(' ');
            }
        }
        return s.toString();
    }

    /** The last of all HANDS, KINDS, LOANS goes back as the first does. */
    private static void theLastGoesBack() {
        LentHands x = people(8, 99);
        for (int i = 0; i < 16; i++) {
            x.lend(i < 8 ? 0 : 14, i < 8 ? 1 - i % 2 : i % 2 == 0 ? 6 : 7, 9, i);
        }
        tell(x, 1, "learn 9; wear 9; scar 1000;");
        x.task(7, 3);
        x.task(0, 0);
        x.hours(8);
        due("learnt", x.at(15, 3), 72);
        due("learnt", x.at(0, 0), 72);
        x.hours(1);
        due("all have ended", x.look(2), 0);
        due("undo", x.undo(), true);
        due("all are there", x.look(2), 16);
        for (int i = 0; i < 16; i++) {
            due("price of " + i, x.loan(i, 4), i);
            due("end of " + i, x.loan(i, 3), 9);
        }
        due("one hour less", x.at(15, 3), 72);
        due("one hour less", x.at(0, 0), 72);
        due("one hour less", x.at(15, 4), 72);
        due("one scar less", x.at(15, 5), 8);
        due("held", x.at(15, 7), 8);
        due("held", x.at(0, 7), 8);
        due("marks", x.at(15, 6), 128);
        due("undo", x.undo(), true);
        due("two hours less", x.at(15, 3), 63);
        for (int i = 0; i < 4; i++) {
            due("undo", x.undo(), true);
        }
        due("six hours less", x.at(15, 3), 27);
        due("no more", x.undo(), false);
        due("six hours less", x.look(1), 3);
        // The eldest of six LOANS ends, and the others move up; then they are as they were.
        x = people(7, 0);
        for (int i = 0; i < 6; i++) {
            x.lend(2 * i, 6, i == 0 ? 1 : 9 - i, 0);
        }
        x.hours(1);
        due("the eldest then", x.loan(0, 0), 2);
        due("the latest then", x.loan(4, 0), 10);
        x.undo();
        for (int i = 0; i < 6; i++) {
            int[] want = {2 * i, i, 6, i == 0 ? 1 : 9 - i, 0};
            for (int what = 0; what < 5; what++) {
                due("loan(" + i + ", " + what + ")", x.loan(i, what), want[what]);
            }
        }
    }

    private static void sixAreKept() {
        LentHands x = people(1, 0);
        due("nothing", x.undo(), false);
        due("nothing", x.look(10), 0);
        for (int i = 1; i <= 7; i++) {
            x.deed(0, 0);
            due("after " + i, x.look(10), Math.min(i, 6));
        }
        for (int i = 6; i >= 1; i--) {
            due("undo", x.undo(), true);
            due("guilt", x.of(0, 3), i);
            due("lines", x.look(3), i);
            due("left", x.look(10), i - 1);
        }
        due("the first stays", x.undo(), false);
        due("guilt", x.of(0, 3), 1);
        // What was undone makes room; each HOUR of many is one.
        x.hours(6);
        due("six", x.look(10), 6);
        x.undo();
        x.undo();
        x.task(0, 0);
        x.task(0, 1);
        due("six", x.look(10), 6);
        x.task(0, 2);
        for (int i = 1; i >= 0; i--) {
            due("undo", x.undo(), true);
            due("task", x.of(0, 2), i);
        }
        due("undo", x.undo(), true);
        due("no task", x.of(0, 2), NONE);
        for (int i = 3; i >= 1; i--) {
            due("undo", x.undo(), true);
            due("hour", x.look(1), i);
        }
        due("the first hour stays", x.undo(), false);
        x.hours(100);
        due("six of a hundred", x.look(10), 6);
        for (int i = 0; i < 6; i++) {
            x.undo();
        }
        due("look(1)", x.look(1), 95);
        due("no more", x.undo(), false);
        x.deed(0, 0);
        x.hours(5);
        for (int i = 0; i < 5; i++) {
            x.undo();
        }
        due("ahead of five hours", x.look(1), 95);
        due("the deed is still one", x.undo(), true);
        due("guilt", x.of(0, 3), 1);
    }

    private static void forgets() {
        for (int way = 0; way < 10; way++) {
            LentHands x = people(2, 0);
            x.image(true);
            x.task(0, 0);
            due("one", x.look(10), 1);
            switch (way) {
                case 0: x.state(0); break;
                case 1: x.person(0, 0); break;
                case 2: x.set(0, 0, 0); break;
                case 3: x.set(1, 0, 0); break;
                case 4: x.set(2, 3, 0); break;
                case 5: x.set(6, 0, 0); break;
                case 6: x.set(7, 0, 0); break;
                case 7: tell(x, 3, ""); break;
                case 8: tell(x, 3, "lend 0 to 1 at 0 for 1;"); break;
                default: x.image(false); break;
            }
            due("way " + way + " forgets", x.look(10), 0);
            due("way " + way + " forgets", x.undo(), false);
            due("the task", x.of(0, 2), way == 9 ? NONE : 0);
        }
    }

    private static void doesNotForget() {
        LentHands x = people(2, 0);
        x.task(0, 0);
        x.task(0, 1);
        x.image(true);
        tell(x, 0, "bar;");
        tell(x, 1, "pay 1;");
        tell(x, 2, "");
        tell(x, 4, "work 0 needs 0 pays 1;");
        tell(x, 3, "lend 0 to 1 at 0 for 0;");
        tell(x, 0, "may");
        x.text(5);
        x.feed(0, 0, 0, 0, 0);
        x.end(3);
        x.person(-1, 0);
        x.set(0, 0, -1);
        x.set(8, 0, 0);
        x.set(2, 4, 0);
        // What can't be, and what is asked, is no act and tells nothing.
        x.lend(0, 0, 1, 0);
        x.leave(0, 2);
        x.fetch(0, 0);
        x.task(0, 4);
        x.deed(2, 0);
        x.hours(0);
        x.hours(101);
        x.back();
        x.where(0, 9);
        x.wishes(0, 0, 0);
        due("two still", x.look(10), 2);
        due("undo", x.undo(), true);
        due("task 0", x.of(0, 2), 0);
        due("laws stay", x.look(5), 1);
        due("works stay", x.look(9), 1);
        due("undo", x.undo(), true);
        due("no task", x.of(0, 2), NONE);
        due("no more", x.undo(), false);
        due("the image is as it was taken", x.image(false), true);
        due("task 1", x.of(0, 2), 1);
    }

    private static void imageOfAll() {
        LentHands x = people(7, 50);
        due("none taken", x.image(false), false);
        x.person(50, 1);
        x.state(77);
        x.set(5, 15, 33);
        x.set(6, 15, 44);
        x.set(7, 15, 5);
        String[] texts = {"bar;", "learn 1;", "none;", "lend 2 to 0 at 5 for 1;", "work 0 needs 1 pays 1;"};
        for (int k = 0; k < 5; k++) {
            tell(x, k, texts[k] + " ");
        }
        x.task(7, 3);
        tell(x, 0, "");
        for (int i = 0; i < 6; i++) {
            x.lend(12, i % 2 == 0 ? 5 : 6, 9, i);
        }
        tell(x, 0, "bar;");
        x.deed(7, 1);
        x.hours(2);
        due("taken", x.image(true), true);
        for (int round = 0; round < 3; round++) {
            if (round < 2) {
                change(x, round);
            }
            due("gone back to", x.image(false), true);
            int[] looks = {8, 2, 6, 1, 77, 1, 1, 1, 1, 1, 0, 1 << 10};
            for (int what = 0; what < looks.length; what++) {
                due("look(" + what + ")", x.look(what), looks[what]);
            }
            int[] last = {50, 1, 3, 0, 14, 15};
            for (int what = 0; what < last.length; what++) {
                due("of(7, " + what + ")", x.of(7, what), last[what]);
            }
            int[] hand = {0, 0, 0, 35, 44, 5, 128, 2, 7, 0, NONE};
            for (int what = 0; what < hand.length; what++) {
                due("at(15, " + what + ")", x.at(15, what), hand[what]);
            }
            due("loan(5, 4)", x.loan(5, 4), 5);
            due("book(0, 1)", x.book(0, 1), 15);
            due("law of loans", x.may(0, 1, 1, 0), 0);
            due("law of hands", x.learns(0, 0, 3), 3);
            due("law of guilt", x.judged(0, 1, 0), 3);
            due("booking", x.fails(1), 5);
            due("work", x.can(0, 0), 0);
            due("nothing to undo", x.undo(), false);
        }
        due("the tape is not in it", x.end(40), true);
        due("nor the fault", x.fault(0), 2);
        due("nor its place", x.fault(1), 6);
    }

    private static void change(LentHands x, int round) {
        x.state(round);
        x.set(0, 7, 9);
        x.set(1, 7, 0);
        x.set(5, 15, 99);
        x.set(6, 15, 0);
        x.set(7, 15, 0);
        String[] texts = {"may; may;", "", "head; head;", "", ""};
        for (int k = 0; k < 5; k++) {
            tell(x, k, texts[k]);
        }
        tell(x, 1, "pay 1/0;");
        x.task(7, NONE);
        x.lend(12, 3, 1, 0);
        x.leave(0, 1);
        x.deed(7, 0);
        x.deed(7, 1);
        x.leave(7, 1);
        x.hours(5);
        tell(x, 1, "pay 1/0;");
        x.feed(round, 0, 0, 0, 0);
        x.feed(round, 0, 0, 0, 0);
    }

    private static void imageOfTheBook() {
        LentHands x = people(3, 0);
        x.deed(0, 0);
        x.deed(1, 0);
        x.image(true);
        x.undo();
        x.hours(1);
        x.deed(2, 1);
        x.deed(2, 0);
        due("another line", x.book(1, 1), 5);
        x.image(false);
        due("two lines", x.look(3), 2);
        due("the second is the image's", x.book(1, 0), 0);
        due("the second is the image's", x.book(1, 1), 2);
        due("the second is the image's", x.book(1, 2), 1);
        due("no third", x.book(2, 0), NONE);
        due("hour", x.look(1), 0);
    }

    private static void imagesTaken() {
        LentHands x = people(1, 0);
        due("taken", x.image(true), true);
        x.person(9, 1);
        x.set(2, 3, 50);
        due("taken again", x.image(true), true);
        x.person(8, 0);
        due("gone back to", x.image(false), true);
        due("the later one", x.look(0), 2);
        due("born anew", x.person(7, 0), 2);
        due("of(2, 0)", x.of(2, 0), 7);
        x.image(false);
        due("once more", x.look(0), 2);
        due("its hand", x.at(3, 0), 50);
        due("no such hand then", x.at(4, 0), NO);
        // Who comes after that is new in all.
        x = people(1, 0);
        x.image(true);
        x.person(5, 1);
        x.set(4, 3, 60);
        x.task(1, 2);
        x.deed(1, 1);
        x.lend(2, 0, 9, 0);
        x.hours(3);
        x.image(false);
        x.person(1, 0);
        int[] person = {1, 0, NONE, 0, 2, 3};
        for (int what = 0; what < person.length; what++) {
            due("of(1, " + what + ")", x.of(1, what), person[what]);
        }
        for (int what = 0; what < 8; what++) {
            due("at(2, " + what + ")", x.at(2, what), 0);
            due("at(3, " + what + ")", x.at(3, what), 0);
        }
        due("at(2, 8)", x.at(2, 8), 1);
    }
}
