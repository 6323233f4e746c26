/** "2. TEXTS": each sentence just inside its bounds and just outside. */
final class TextBounds extends Sentences {
    private static final String[] ASKED = {"left", "best", "worn", "scars", "hours", "price", "coin", "child", "own", "chain",
        "skill", "held", "kind", "hour"};

    static void run() {
        empty();
        lawsAsLines();
        conditions();
        sums();
        asked();
        tables();
        tokens();
        ints();
        faults();
        values();
    }

    private static void empty() {
        sentence("==== 2. TEXTS (empty at first).");
        LentHands x = people(2, 0);
        for (int what = 5; what < 10; what++) {
            due("look(" + what + ")", x.look(what), 0);
        }
        due("no law of loans", x.may(0, 1, 1, 0), 1);
        due("no law of hands", x.learns(0, 0, 99), 0);
        due("no law of guilt", x.judged(0, 0, 0), 1);
        due("no bookings", x.fails(0), NONE);
        due("no works", x.can(0, 0), NONE);
    }

    private static void lawsAsLines() {
        sentence("0 THE LAW OF LOANS = {(may | bar) [when B] ;}, 1 THE LAW OF HANDS = {(learn | wear | scar | pay) E [when B] ;},"
            + " 2 THE LAW OF GUILT = {(hand | head | both | none) [when B] ;}.");
        String[] words = {"may", "bar", "learn", "wear", "scar", "pay", "hand", "head", "both", "none", "lend", "work", "when", "not"};
        for (int k = 0; k < 3; k++) {
            LentHands x = people(1, 0);
            for (int i = 0; i < words.length; i++) {
                boolean its = i < 2 ? k == 0 : i < 6 ? k == 1 : i < 10 && k == 2;
                String e = k == 1 ? " 1" : "";
                if (its) {
                    lines(x, k, words[i] + e + ";", 1);
                    lines(x, k, words[i] + e + " when 1 = 1;", 1);
                    lines(x, k, words[i] + e + " ; " + words[i] + e + " when 1 = 1 ;", 2);
                    faulty(x, k, words[i] + e, 1, words[i].length() + e.length());
                    faulty(x, k, words[i] + e + " when;", 1, words[i].length() + e.length() + 5);
                    faulty(x, k, words[i] + e + " when 1 = 1", 1, words[i].length() + e.length() + 11);
                    faulty(x, k, words[i] + (k == 1 ? ";" : " 1;"), 1, words[i].length() + (k == 1 ? 0 : 1));
                    faulty(x, k, words[i] + e + ";;", 1, words[i].length() + e.length() + 1);
                } else {
                    faulty(x, k, words[i] + e + ";", 1, 0);
                }
            }
            lines(x, k, "", 0);
            lines(x, k, "\n ", 0);
            due("look(" + (5 + k) + ")", x.look(5 + k), 0);
        }
    }

    /** Whether B is so, told as a LAW that bars else: to 1, of COIN 20, hand 0 with a SKILL of 60 and WEAR of 7. */
    private static void so(String b, boolean want) {
        LentHands x = people(2, 20);
        x.set(5, 0, 60);
        x.set(6, 0, 7);
        due("text of " + b, tell(x, 0, "may when " + b + "; bar;"), 2);
        due(b, x.may(0, 1, 3, 4), want ? 1 : 0);
    }

    private static void conditions() {
        sentence("B = A {or A}. A = C {and C}.");
        so("1 = 1 or 1 = 2", true);
        so("1 = 2 or 1 = 1", true);
        so("1 = 2 or 1 = 2", false);
        so("1 = 1 and 1 = 1", true);
        so("1 = 1 and 1 = 2", false);
        so("1 = 2 and 1 = 1", false);
        so("1 = 1 or 1 = 1 and 1 = 2", true);
        so("1 = 2 and 1 = 2 or 1 = 1", true);
        so("1 = 2 or 1 = 2 or 1 = 1", true);
        so("1 = 1 and 1 = 1 and 1 = 2", false);
        LentHands x = people(1, 0);
        faulty(x, 0, "may when 1 = 1 or;", 1, 17);
        faulty(x, 0, "may when 1 = 1 and;", 1, 18);
        faulty(x, 0, "may when or 1 = 1;", 1, 9);
        faulty(x, 0, "may when 1 = 1 or and 1 = 1;", 1, 18);
        faulty(x, 0, "may when 1 = 1 1 = 1;", 1, 15);

        sentence("C = E (< | = | >) E | not C | ( B ).");
        so("6 < worn", true);
        so("7 < worn", false);
        so("6 = worn", false);
        so("7 = worn", true);
        so("8 = worn", false);
        so("7 > worn", false);
        so("8 > worn", true);
        so("8 > worn and 6 < worn and 7 = worn", true);
        so("not (8 > worn and 6 < worn and 7 = worn)", false);
        so("not 1 = 2", true);
        so("not 1 = 1", false);
        so("not not 1 = 1", true);
        so("not 1 = 2 and 1 = 2", false);
        so("not (1 = 2 and 1 = 2)", true);
        so("not 1 = 1 or 1 = 1", true);
        so("not (1 = 1 or 1 = 1)", false);
        so("(1 = 1 or 1 = 1) and 1 = 2", false);
        so("1 = 2 and (1 = 2 or 1 = 1)", false);
        faulty(x, 0, "may when left;", 1, 13);
        faulty(x, 0, "may when left =;", 1, 15);
        faulty(x, 0, "may when < 1;", 1, 9);
        faulty(x, 0, "may when 1 < 2 < 3;", 1, 15);
        faulty(x, 0, "may when 1 <= 2;", 1, 12);
        faulty(x, 0, "may when not;", 1, 12);
        faulty(x, 0, "may when 1 = not 1 = 1;", 1, 13);
        faulty(x, 0, "may when ();", 1, 10);
        faulty(x, 0, "may when (1 = 1;", 1, 15);
        faulty(x, 0, "may when 1 = 1);", 1, 14);
        faulty(x, 0, "may when (1) = 1;", 1, 11);
    }

    private static void sums() {
        sentence("E = T {(+ | -) T}. T = U {* U | / NUMBER}. U = NUMBER | what the LAW asks.");
        so("20 - 3 - 4 = 13", true);
        so("20 - 3 + 4 = 21", true);
        so("2 + 3 * 4 = 14", true);
        so("2 * 3 + 4 = 10", true);
        so("20 / 3 * 3 = 18", true);
        so("3 * 20 / 3 = 20", true);
        so("20 / 3 / 2 = 3", true);
        so("worn * worn - worn / 2 + 1 = 47", true);
        LentHands x = people(1, 0);
        faulty(x, 0, "may when - 1 < 1;", 1, 9);
        faulty(x, 0, "may when 1 + < 1;", 1, 13);
        faulty(x, 0, "may when 1 - - 1 < 1;", 1, 13);
        faulty(x, 0, "may when 1 * < 1;", 1, 13);
        faulty(x, 0, "may when 1 / < 1;", 1, 13);
        faulty(x, 0, "may when 1 / worn < 1;", 1, 13);
        faulty(x, 0, "may when 1 * (1) < 1;", 1, 13);
        lines(x, 0, "may when 1 * worn / 1 < 1;", 1);
    }

    private static void asked() {
        sentence("Of LOANS: left | best | worn | scars | hours | price | coin | child | own | chain.");
        asks(0, "may when ", "left best worn scars hours price coin child own chain");
        sentence("Of HANDS: skill | worn | scars | own | left | held | child | kind | hour.");
        asks(1, "learn ", "skill worn scars own left held child kind hour");
        asks(1, "learn 1 when ", "skill worn scars own left held child kind hour");
        sentence("Of GUILT: own | best | held | price | child | scars | left.");
        asks(2, "hand when ", "own best held price child scars left");
    }

    private static void asks(int k, String ahead, String its) {
        LentHands x = people(1, 0);
        String behind = ahead.endsWith("when ") ? " = 0;" : ";";
        for (String word : ASKED) {
            if (" ".concat(its).concat(" ").contains(" " + word + " ")) {
                lines(x, k, ahead + word + behind, 1);
            } else {
                faulty(x, k, ahead + word + behind, 1, ahead.length());
            }
        }
    }

    private static void tables() {
        sentence("3 BOOKINGS = {lend HAND to PERSON at HOUR for HOURS [price N] ;}, 4 WORKS = {work KIND needs N pays N [both] ;}.");
        lineOf(3, "lend 0 to 0 at 0 for 1 price 0 ;");
        lineOf(3, "lend 0 to 0 at 0 for 1 ;");
        lineOf(4, "work 0 needs 0 pays 0 both ;");
        lineOf(4, "work 0 needs 0 pays 0 ;");
        LentHands x = people(1, 0);
        for (int k = 3; k < 5; k++) {
            lines(x, k, "", 0);
            due("look(" + (5 + k) + ")", x.look(5 + k), 0);
        }
        faulty(x, 3, "lend 0 to 0 at 0 for 1 both;", 1, 23);
        faulty(x, 4, "work 0 needs 0 pays 0 price 0;", 1, 22);
        faulty(x, 4, "work 0 needs 0 pays 0 both 1;", 1, 27);
        // What is told without a price is told for 0, with one for that.
        x = people(2, 9);
        tell(x, 3, "lend 0 to 1 at 0 for 3 price 3; lend 3 to 0 at 0 for 3;");
        x.hours(1);
        due("loan(0, 4)", x.loan(0, 4), 3);
        due("loan(1, 4)", x.loan(1, 4), 0);
        tell(x, 3, "lend 0 to 0 at 1 for 1;");
        x.hours(1);
        due("no price is left of a text ahead", x.of(0, 0), 18);
        tell(x, 4, "work 0 needs 0 pays 1 both; work 0 needs 0 pays 1;");
        due("one hand is not both", x.can(0, 0), 0);
        due("one hand", x.can(0, 1), 1);

        sentence("(HAND, PERSON: such as there are; HOUR 0 .. 9999, HOURS 1 .. 99, price 0 .. 99; needs, pays 0 .. 99.)");
        number(2, 3, "lend # to 1 at 0 for 1;", 0, 3);
        number(2, 3, "lend 0 to # at 0 for 1;", 0, 1);
        number(2, 3, "lend 0 to 1 at # for 1;", 0, 9999);
        number(2, 3, "lend 0 to 1 at 0 for #;", 1, 99);
        number(2, 3, "lend 0 to 1 at 0 for 1 price #;", 0, 99);
        number(2, 4, "work # needs 0 pays 0;", 0, 3);
        number(2, 4, "work 0 needs # pays 0;", 0, 99);
        number(2, 4, "work 0 needs 0 pays #;", 0, 99);
        number(8, 3, "lend # to 1 at 0 for 1;", 0, 15);
        number(8, 3, "lend 0 to # at 0 for 1;", 0, 7);
        x = people(1, 0);
        faulty(x, 3, "lend 2 to 0 at 0 for 1;", 2, 5);
        faulty(x, 3, "lend 0 to 1 at 0 for 1;", 2, 10);
        x.person(0, 0);
        lines(x, 3, "lend 3 to 1 at 0 for 1;", 1);
        faulty(new LentHands(), 3, "lend 0 to 0 at 0 for 1;", 2, 5);
    }

    /** The whole line is one; each beginning of it lacks something at its end; each token twice is one too many. */
    private static void lineOf(int k, String line) {
        LentHands x = people(1, 0);
        String[] tokens = line.split(" ");
        String ahead = "";
        lines(x, k, line, 1);
        lines(x, k, line + line, 2);
        for (int i = 0; i < tokens.length; i++) {
            if (i > 0) {
                faulty(x, k, ahead, 1, ahead.length());
            }
            int second = ahead.length() + tokens[i].length() + 1;
            faulty(x, k, ahead + tokens[i] + " " + line.substring(ahead.length()), 1, second);
            ahead += tokens[i] + " ";
        }
    }

    /** At the sign stands a NUMBER from least to most; one below or above is a FAULT at its place. */
    private static void number(int people, int k, String line, int least, int most) {
        LentHands x = people(people, 0);
        int place = line.indexOf('#');
        lines(x, k, line.replace("#", "" + least), 1);
        lines(x, k, line.replace("#", "" + most), 1);
        lines(x, k, line.replace("#", String.format("%04d", most)), 1);
        faulty(x, k, line.replace("#", "" + (most + 1)), most == 9999 ? 1 : 2, place);
        if (least > 0) {
            faulty(x, k, line.replace("#", "" + (least - 1)), 2, place);
        }
        faulty(x, k, line.replace("#", "left"), 1, place);
        faulty(x, k, line.replace("#", "-1"), 1, place);
    }

    private static void tokens() {
        sentence("TOKENS: letters (capitals, too) as many as stand together are KEYWORDS (those told here for that text) or none;");
        LentHands x = people(1, 0);
        for (char c : "azAZ".toCharArray()) {
            faulty(x, 0, "may" + c + ";", 1, 0);
            faulty(x, 0, c + "may;", 1, 0);
        }
        // 64, 91, 96 and 123 stand beside the letters.
        for (char c : "@[`{".toCharArray()) {
            faulty(x, 0, "may" + c + ";", 1, 3);
            faulty(x, 0, c + "may;", 1, 0);
        }
        faulty(x, 0, "MAY;", 1, 0);
        faulty(x, 0, "maY;", 1, 0);
        faulty(x, 0, "maymay;", 1, 0);
        faulty(x, 0, "ma;", 1, 0);
        faulty(x, 0, "may whe left = 1;", 1, 4);
        faulty(x, 0, "may when lef = 1;", 1, 9);
        faulty(x, 0, "may when hour = 1;", 1, 9);
        lines(x, 0, "may when hours = 1;", 1);
        faulty(x, 0, "may when 1 = 1 nor 1 = 1;", 1, 15);
        faulty(x, 2, "hand when 1 = 1 to 1;", 1, 16);
        // What was on the TAPE ahead and lies behind its end does not belong to the word.
        onTape(x, "may when left = left;");
        x.end(12);
        due("text(0) of 'may when lef'", x.text(0), NONE);
        due("its place", x.fault(1), 9);
        onTape(x, "may;     ");
        x.end(2);
        due("text(0) of 'ma'", x.text(0), NONE);
        due("its place", x.fault(1), 0);
        onTape(x, "may when 1 = 1234");
        x.end(16);
        onTape(x, "=23;");
        due("text(0) of 'may when 1 = 123=23;'", x.text(0), NONE);
        due("its place", x.fault(1), 16);
        // Only letters make words: a digit ends one, and begins another token.
        lines(x, 0, "may when0=left;", 1);
        faulty(x, 0, "may0;", 1, 3);
        faulty(x, 0, "may when left0 = 1;", 1, 13);

        sentence("digits as many as stand together NUMBERS of 1 to 4 digits or none;");
        lines(x, 1, "pay 0;", 1);
        lines(x, 1, "pay 9999;", 1);
        lines(x, 1, "pay 0000;", 1);
        faulty(x, 1, "pay 00000;", 1, 4);
        faulty(x, 1, "pay 10000;", 1, 4);
        faulty(x, 1, "pay 99999;", 1, 4);
        faulty(x, 1, "pay " + times("9", 396), 1, 4);
        faulty(x, 1, "pay 12 34;", 1, 7);
        // 47 is the part, 58 none.
        faulty(x, 1, "pay 1:;", 1, 5);
        lines(x, 1, "pay 1/1;", 1);
        so("0007 = worn", true);
        so("0070 = worn", false);
        so("9999 = 9998 + 1", true);

        sentence("; + - * / ( ) < = > . Blanks (32, 10) between.");
        for (int c = 0; c < 256; c++) {
            x = people(1, 0);
            char sign = (char) c;
            if (sign == ' ' || sign == '\n') {
                lines(x, 0, "may" + sign + ";", 1);
                lines(x, 0, sign + "may" + sign + ";" + sign, 1);
            } else {
                boolean letter = sign >= 'a' && sign <= 'z' || sign >= 'A' && sign <= 'Z';
                faulty(x, 0, "may" + sign + ";", 1, letter ? 0 : sign == ';' ? 4 : 3);
                faulty(x, 0, "may;" + sign, 1, 4);
            }
            boolean joins = "+-*/".indexOf(sign) >= 0;
            if (joins || sign >= '0' && sign <= '9') {
                lines(x, 1, "pay 1" + sign + "1;", 1);
            } else if (sign == ';') {
                faulty(x, 1, "pay 1;1;", 1, 6);
            } else {
                faulty(x, 1, "pay 1" + sign + "1;", 1, sign == ' ' || sign == '\n' ? 6 : 5);
            }
            if ("<=>".indexOf(sign) >= 0) {
                lines(x, 0, "may when 1" + sign + "2;", 1);
            }
        }
        lines(x, 0, "may when(1=1)and not(1=2);bar;", 2);
        lines(x, 0, "\n\nmay \n when\n(  1 = 1\n)\n;\n", 1);
        faulty(x, 0, "ma y;", 1, 0);
        faulty(x, 0, "may when 1 1 = 11;", 1, 11);
    }

    private static void ints() {
        sentence("Ints, which wrap; / goes towards 0.");
        // 9999 * 9999 * 21 + 9999 * 4790 + 8416 is 2147483647.
        String greatest = "9999 * 9999 * 21 + 9999 * 4790 + 8416";
        so(greatest + " > 0", true);
        so(greatest + " + 1 < 0", true);
        so(greatest + " + 1 - 1 > 0", true);
        so("0 - 9999 * 9999 * 21 - 9999 * 4790 - 8417 < 0", true);
        so("0 - 9999 * 9999 * 21 - 9999 * 4790 - 8418 > 0", true);
        so("9999 * 9999 * 21 > 0", true);
        so("9999 * 9999 * 22 < 0", true);
        so("6 / 7 = 0", true);
        so("7 / 7 = 1", true);
        so("13 / 7 = 1", true);
        so("7 / 1 = 7", true);
        so("9999 / 1 = 9999", true);
        so("9999 / 9999 = 1", true);
        so("9998 / 9999 = 0", true);
        // 9999 * 9999 * 22 wraps to -2095407274.
        so("9999 * 9999 * 22 / 1000 = 0 - 2095 * 1000 - 407", true);
        so("9999 * 9999 * 22 / 7274 = 0 - 288 * 1000 - 68", true);
    }

    private static void faults() {
        sentence("FAULTS, the first by its place, at one place the least:");
        LentHands x = people(1, 0);
        faulty(x, 0, "may when 1 / 0 = ;", 2, 13);
        faulty(x, 0, "may when = 1 / 0;", 1, 9);
        faulty(x, 0, "may when 1 / 0 = " + times("(", 9), 2, 13);
        faulty(x, 0, "may when " + times("(", 9) + "1 / 0", 3, 17);
        faulty(x, 0, times("may;", 16) + "may when 1 / 0;", 3, 64);
        // At one place: what can't stand there is told ahead of the rest.
        faulty(x, 0, times("may;", 16) + "pay;", 1, 64);
        faulty(x, 1, times("pay 1;", 16) + "may;", 1, 96);
        faulty(x, 2, times("both;", 16) + "(", 1, 80);
        faulty(x, 3, times("lend 0 to 0 at 0 for 1;", 16) + "work", 1, 368);
        faulty(x, 4, times("work 0 needs 0 pays 0;", 8) + "lend", 1, 176);
        faulty(x, 0, "may when " + times("(", 8) + "1 (", 1, 19);
        faulty(x, 0, "may when 1 / 00000 = 1;", 1, 13);
        faulty(x, 3, "lend 0 to 0 at 99999 for 1;", 1, 15);

        sentence("1 what can't stand there (the end: the text's length).");
        faulty(x, 0, "may", 1, 3);
        faulty(x, 0, "may ", 1, 4);
        faulty(x, 0, "may\n\n ", 1, 6);
        faulty(x, 0, "may" + times(" ", 397), 1, 400);
        faulty(x, 0, "may" + times(" ", 396) + ".", 1, 399);
        faulty(x, 0, times(";", 400), 1, 0);
        faulty(x, 1, "pay 1" + times("+", 395), 1, 6);
        faulty(x, 1, "pay" + times(" ", 396) + "1", 1, 400);
        lines(x, 1, "pay 1" + times("+1", 197) + ";", 1);
        lines(x, 0, "may" + times(" ", 396) + ";", 1);
        lines(x, 0, times(" ", 400), 0);
        lines(x, 0, "", 0);
        faulty(x, 3, "lend", 1, 4);
        faulty(x, 4, "work 0 needs 0 pays 0 both", 1, 26);
        faulty(x, 1, "\nscar", 1, 5);

        x = people(1, 0);
        sentence("2 (at the NUMBER) a part by 0; a NUMBER beyond its bounds.");
        faulty(x, 1, "pay 1 / 0;", 2, 8);
        faulty(x, 1, "pay 1 /0000;", 2, 7);
        faulty(x, 1, "pay 1 / 1 / 0;", 2, 12);
        lines(x, 1, "pay 1 / 1;", 1);
        lines(x, 1, "pay 1 / 9999;", 1);
        lines(x, 1, "pay 0 / 1 * 0;", 1);
        faulty(x, 3, "lend 2 to 0 at 0 for 1;", 2, 5);
        faulty(x, 3, "lend 0 to 0 at 0 for 0", 2, 21);
        faulty(x, 4, "work 0 needs 0 pays 100", 2, 20);

        sentence("3 (at its KEYWORD) the 17th line of a LAW, of BOOKINGS, the 9th of WORKS; (at it) the 9th ( or not that is open.");
        String[] line = {"may;", "pay 1;", "both;", "lend 0 to 0 at 0 for 1;", "work 0 needs 0 pays 0;"};
        for (int k = 0; k < 5; k++) {
            x = people(1, 0);
            int most = k == 4 ? 8 : 16;
            lines(x, k, times(line[k], most - 1), most - 1);
            lines(x, k, times(line[k], most), most);
            faulty(x, k, times(line[k], most) + line[k].substring(0, 4).replace(";", ""), 3, most * line[k].length());
            faulty(x, k, times(line[k], most) + " " + line[k], 3, most * line[k].length() + 1);
            due("look(" + (5 + k) + "), as it was", x.look(5 + k), most);
        }
        opened();
    }

    private static void opened() {
        LentHands x = people(1, 0);
        for (int nots = 0; nots <= 8; nots++) {
            String open = times("not ", nots) + times("(", 8 - nots);
            lines(x, 0, "may when " + open + "1=1" + times(")", 8 - nots) + ";", 1);
            int place = 9 + open.length();
            faulty(x, 0, "may when " + open + "(1=1", 3, place);
            faulty(x, 0, "may when " + open + "not 1=1", 3, place);
        }
        // Closed again, they count no more.
        lines(x, 0, "may when " + times("(", 8) + "1=1" + times(")", 8) + "and " + times("not ", 8) + "1=1;", 1);
        lines(x, 0, "may when " + times("not ", 8) + "1=1 or " + times("not ", 8) + "1=1;", 1);
        lines(x, 0, "may when (" + times("not ", 7) + "1=1 and " + times("not ", 7) + "1=1);", 1);
        faulty(x, 0, "may when (" + times("not ", 7) + "1=1 and " + times("not ", 8) + "1=1);", 3, 74);
        lines(x, 0, "may when " + times("(", 7) + "1=1)and(1=1" + times(")", 7) + ";", 1);
        lines(x, 0, times("may when " + times("(", 8) + "1=1" + times(")", 8) + ";", 2), 2);
    }

    private static void values() {
        sentence("left: 1 for a left HAND, else 0; best: its greatest SKILL; worn: WEAR; scars; held;");
        LentHands x = people(8, 0);
        lent(x, 0, 1, "left", 1);
        lent(x, 1, 1, "left", 0);
        lent(x, 14, 1, "left", 1);
        lent(x, 15, 1, "left", 0);
        lent(x, 0, 1, "best", 0);
        for (int kind = 0; kind < 4; kind++) {
            x.set(2 + kind, 0, 96 + kind);
            lent(x, 0, 1, "best", 96 + kind);
        }
        x.set(5, 0, 0);
        lent(x, 0, 1, "best", 98);
        x.set(2, 0, 99);
        lent(x, 0, 1, "best", 99);
        lent(x, 1, 1, "best", 0);
        x.set(6, 0, 99);
        x.set(7, 0, 9);
        lent(x, 0, 1, "worn", 99);
        lent(x, 1, 1, "worn", 0);
        lent(x, 0, 1, "scars", 9);
        toiled(x, 0, 0, "worn", 99);
        toiled(x, 0, 0, "scars", 9);
        toiled(x, 1, 0, "left", 0);
        toiled(x, 0, 0, "held", 0);
        done(x, 0, 0, "held", 0);
        done(x, 0, 0, "best", 99);
        done(x, 0, 0, "scars", 9);
        done(x, 0, 0, "left", 1);
        x.hours(2);
        toiled(x, 0, 0, "held", 2);
        done(x, 0, 0, "held", 2);

        sentence("own: 1, if who borrows, has, does it was born with it, else 0; child: his; coin: his who borrows;");
        x = new LentHands();
        x.person(50, 0);
        x.person(9999, 1);
        x.person(0, 0);
        lent(x, 0, 1, "own", 0);
        lent(x, 0, 1, "child", 1);
        lent(x, 0, 1, "coin", 9999);
        lent(x, 0, 2, "child", 0);
        lent(x, 0, 2, "coin", 0);
        toiled(x, 0, 0, "own", 1);
        toiled(x, 0, 0, "child", 0);
        done(x, 0, 0, "own", 1);
        done(x, 0, 0, "child", 0);
        x.lend(0, 1, 9, 7);
        lent(x, 0, 0, "own", 1);
        lent(x, 0, 0, "child", 0);
        lent(x, 0, 0, "coin", 113);
        lent(x, 0, 2, "own", 0);
        toiled(x, 0, 1, "own", 0);
        toiled(x, 0, 1, "child", 1);
        done(x, 1, 0, "own", 0);
        done(x, 1, 0, "child", 1);

        sentence("hours, price: of the LOAN (GUILT: price of the HAND's latest LOAN, 0 without one); chain: how many LOANS it has already;"
            + " skill: of the KIND of the TASK; kind: that; hour.");
        x = people(3, 9999);
        so("hours = 3 and price = 4", true);
        for (int edge : new int[] {1, 99}) {
            tell(x, 0, "may when hours = " + edge + " and price = " + edge + "; bar;");
            due("both " + edge, x.may(0, 1, edge, edge), 1);
            due("another price", x.may(0, 1, edge, edge - 1), 0);
            due("other hours", x.may(0, 1, 100 - edge, edge), 0);
        }
        tell(x, 0, "");
        done(x, 0, 0, "price", 0);
        lent(x, 0, 1, "chain", 0);
        x.lend(0, 1, 9, 99);
        done(x, 1, 0, "price", 99);
        done(x, 1, 1, "price", 0);
        lent(x, 0, 2, "chain", 1);
        x.lend(0, 2, 9, 3);
        done(x, 2, 0, "price", 3);
        lent(x, 0, 1, "chain", 2);
        lent(x, 2, 0, "chain", 0);
        for (int i = 0; i < 14; i++) {
            x.lend(0, i % 2, 9, 0);
        }
        lent(x, 0, 2, "chain", 16);
        x.hours(9);
        lent(x, 0, 1, "chain", 0);
        done(x, 0, 0, "price", 0);
        x.set(2, 0, 40);
        x.set(5, 0, 70);
        toiled(x, 0, 0, "skill", 40);
        toiled(x, 0, 0, "hour", 9);
        tell(x, 1, "scar 1000 when not skill = 70 or not kind = 3;");
        due("skill of kind 3", x.safe(0, 3, 1), 1000000);
        due("of kind 0", x.safe(0, 0, 1), 0);
    }

    /** What the LAW OF LOANS hears for a word, when that HAND were lent to him. */
    private static void lent(LentHands x, int hand, int to, String word, int want) {
        tell(x, 0, "may when " + word + " = " + want + "; bar;");
        due(word + " of a loan of " + hand + " to " + to + " is " + want, x.may(hand, to, 1, 0), 1);
        tell(x, 0, "");
    }

    /** What the LAW OF HANDS hears for a word in a TASK of KIND 0 with what he has. */
    private static void toiled(LentHands x, int hand, int who, String word, int want) {
        due("who has " + hand, x.at(hand, 8), who);
        tell(x, 1, "scar 1000 when " + word + " = " + want + ";");
        due(word + " of a task with " + hand + " is " + want, x.safe(hand, 0, 1), 0);
        tell(x, 1, "");
    }

    /** What the LAW OF GUILT hears for a word, when he did a DEED. */
    private static void done(LentHands x, int person, int side, String word, int want) {
        tell(x, 2, "none when " + word + " = " + want + "; head;");
        due(word + " of a deed of " + person + " is " + want, x.judged(person, side, 0), 3);
        tell(x, 2, "");
    }
}
