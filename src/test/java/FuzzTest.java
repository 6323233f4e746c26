import java.util.ArrayList;
import java.util.List;
import java.util.Random;

/**
 * Long runs of calls drawn from fixed seeds, ordinary and wrong ones, on the class and on Model: each answer
 * and, between the calls, all that can be asked without changing it must be the same.
 */
public final class FuzzTest {
    private static final int RUNS = 1500;
    private static final int CALLS = 200;

    private final Random random;
    private final LentHands x = new LentHands();
    private final Model m = new Model();
    private final List<String> told = new ArrayList<>();
    private boolean wrong;

    private FuzzTest(int seed) {
        random = new Random(seed);
    }

    public static void main(String[] args) {
        int first = args.length > 0 ? Integer.parseInt(args[0]) : 0;
        int runs = args.length > 1 ? Integer.parseInt(args[1]) : RUNS;
        int bad = 0;
        for (int seed = first; seed < first + runs && bad < 5; seed++) {
            FuzzTest run = new FuzzTest(seed);
            run.go();
            if (run.wrong) {
                bad++;
                System.out.println("seed " + seed + ":");
                run.told.forEach(System.out::println);
            }
        }
        System.out.println(runs + " runs, " + bad + " wrong");
        if (bad > 0) {
            System.exit(1);
        }
    }

    private void due(String call, long got, long want) {
        told.add("  " + call + " = " + got);
        if (got != want) {
            wrong = true;
            told.add("    but the model answers " + want);
        }
    }

    private void due(String call, boolean got, boolean want) {
        due(call, got ? 1 : 0, want ? 1 : 0);
    }

    private int below(int n) {
        return random.nextInt(n);
    }

    /** Mostly from least to most, now and then beside or far beyond. */
    private int some(int least, int most) {
        switch (below(40)) {
            case 0: return least - 1;
            case 1: return most + 1;
            case 2: return new int[] {Integer.MIN_VALUE, Integer.MAX_VALUE, -2, 65536, 1 << 30}[below(5)];
            default: return most < least ? least : least + below(most - least + 1);
        }
    }

    private int someone() {
        return some(0, m.now.people.size() - 1);
    }

    private int someHand() {
        return some(0, m.now.hands.size() - 1);
    }

    private void go() {
        if (below(3) > 0) {
            int v = random.nextInt();
            due("state(" + v + ")", x.state(v), m.state(v));
        }
        int people = below(9);
        for (int i = 0; i < people; i++) {
            person();
        }
        for (int i = 0; i < 4 * people; i++) {
            tell();
        }
        for (int k = 0; k < 5; k++) {
            if (below(4) > 0) {
                text(k);
            }
        }
        if (below(60) == 0) {
            nearTheLastHour();
        }
        int style = below(3);
        for (int i = 0; i < CALLS && !wrong; i++) {
            if (below(3) == 0) {
                act();
            } else if (style > 0 || below(3) > 0) {
                question();
            } else {
                change();
            }
            if (i % 50 == 49) {
                compareAll();
            }
        }
    }

    private void nearTheLastHour() {
        int hundreds = 98 + below(2);
        for (int i = 0; i < hundreds; i++) {
            due("hours(100)", x.hours(100), m.hours(100));
        }
        text(3);
    }

    private void person() {
        int coin = below(3) == 0 ? some(9000, 9999) : some(0, 300);
        int child = some(0, 1);
        due("person(" + coin + ", " + child + ")", x.person(coin, child), m.person(coin, child));
    }

    private void tell() {
        int what = some(0, 7);
        int who = what < 2 ? someone() : someHand();
        int v = what == 0 ? some(0, 9999) : what == 1 ? some(0, 1) : what == 7 ? some(0, 9) : some(0, 99);
        due("set(" + what + ", " + who + ", " + v + ")", x.set(what, who, v), m.set(what, who, v));
    }

    private void act() {
        int p = someone();
        int side = some(0, 1);
        int n;
        switch (below(12)) {
            case 0:
            case 1:
            case 2:
            case 3: {
                int hand = someHand();
                n = below(2) == 0 ? some(1, 9) : some(1, 99);
                int price = below(2) == 0 ? some(0, 5) : some(0, 99);
                due("lend(" + hand + ", " + p + ", " + n + ", " + price + ")", x.lend(hand, p, n, price),
                    m.lend(hand, p, n, price));
                break;
            }
            case 4:
                due("leave(" + p + ", " + side + ")", x.leave(p, side), m.leave(p, side));
                break;
            case 5:
                due("fetch(" + p + ", " + side + ")", x.fetch(p, side), m.fetch(p, side));
                break;
            case 6:
            case 7:
                n = some(-1, 3);
                due("task(" + p + ", " + n + ")", x.task(p, n), m.task(p, n));
                break;
            case 8:
                n = below(20) == 0 ? 60 : 1;
                for (int i = 0; i < n; i++) {
                    due("deed(" + p + ", " + side + ")", x.deed(p, side), m.deed(p, side));
                }
                break;
            case 9:
                due("undo()", x.undo(), m.undo());
                break;
            default:
                n = below(6) == 0 ? some(1, 100) : some(1, 4);
                due("hours(" + n + ")", x.hours(n), m.hours(n));
                break;
        }
    }

    private void change() {
        switch (below(9)) {
            case 0:
                person();
                break;
            case 1:
                tell();
                break;
            case 2: {
                int v = random.nextInt();
                due("state(" + v + ")", x.state(v), m.state(v));
                break;
            }
            case 3:
                due("image(true)", x.image(true), m.image(true));
                break;
            case 4:
                due("image(false)", x.image(false), m.image(false));
                break;
            default:
                text(below(30) == 0 ? some(0, 4) : below(5));
                break;
        }
    }

    private void question() {
        int p = someone();
        int hand = someHand();
        int side = some(0, 1);
        int kind = some(0, 3);
        int work = some(0, m.works.size() - 1);
        int n = below(3) == 0 ? some(0, 99) : some(0, 12);
        int what;
        switch (below(28)) {
            case 0: what = some(0, 7); due("of(" + p + ", " + what + ")", x.of(p, what), m.of(p, what)); break;
            case 1: what = some(0, 10); due("at(" + hand + ", " + what + ")", x.at(hand, what), m.at(hand, what)); break;
            case 2: what = some(0, 4); n = some(0, 15); due("loan(" + n + ", " + what + ")", x.loan(n, what), m.loan(n, what)); break;
            case 3: what = some(0, 3); n = some(0, 99); due("book(" + n + ", " + what + ")", x.book(n, what), m.book(n, what)); break;
            case 4: {
                int price = some(0, 99);
                due("may(" + hand + ", " + p + ", " + n + ", " + price + ")", x.may(hand, p, n, price), m.may(hand, p, n, price));
                break;
            }
            case 5: due("can(" + p + ", " + work + ")", x.can(p, work), m.can(p, work)); break;
            case 6: what = below(3) == 0 ? 0 : some(10, 17); due("pay(" + what + ")", x.pay(what), m.pay(what)); break;
            case 7: due("back()", x.back(), m.back()); break;
            case 8: n = below(3) == 0 ? some(0, 300) : n; due("where(" + hand + ", " + n + ")", x.where(hand, n), m.where(hand, n)); break;
            case 9: what = some(0, 1); due("fails(" + what + ")", x.fails(what), m.fails(what)); break;
            case 10: due("bare()", x.bare(), m.bare()); break;
            case 11: what = some(0, (1 << m.now.people.size()) - 1) & (below(2) == 0 ? -1 : random.nextInt()); due("whose(" + what + ")", x.whose(what), m.whose(what)); break;
            case 12: what = some(0, (1 << m.now.hands.size()) - 1); due("ask(" + what + ")", x.ask(what), m.ask(what)); break;
            case 13: due("learns(" + hand + ", " + kind + ", " + n + ")", x.learns(hand, kind, n), m.learns(hand, kind, n)); break;
            case 14: due("safe(" + hand + ", " + kind + ", " + n + ")", x.safe(hand, kind, n), m.safe(hand, kind, n)); break;
            case 15: {
                int skill = some(0, 99);
                due("finds(" + p + ", " + kind + ", " + skill + ", " + n + ")", x.finds(p, kind, skill, n), m.finds(p, kind, skill, n));
                break;
            }
            case 16: due("dear(" + hand + ", " + p + ", " + n + ")", x.dear(hand, p, n), m.dear(hand, p, n)); break;
            case 17:
            case 18: what = some(0, 2); due("wishes(" + p + ", " + work + ", " + what + ")", x.wishes(p, work, what), m.wishes(p, work, what)); break;
            case 19: n = some(0, 99); due("spread(" + kind + ", " + n + ")", x.spread(kind, n), m.spread(kind, n)); break;
            case 20: n = below(3) == 0 ? some(0, 300) : n; due("out(" + n + ")", x.out(n), m.out(n)); break;
            case 21: due("judged(" + p + ", " + side + ", " + n + ")", x.judged(p, side, n), m.judged(p, side, n)); break;
            case 22: due("loophole(" + p + ", " + side + ")", x.loophole(p, side), m.loophole(p, side)); break;
            case 23: due("premium(" + kind + ", " + n + ")", x.premium(kind, n), m.premium(kind, n)); break;
            case 24: n = some(0, 3); due("chain(" + hand + ", " + n + ")", x.chain(hand, n), m.chain(hand, n)); break;
            case 25: what = some(0, 1); due("owes(" + p + ", " + what + ")", x.owes(p, what), m.owes(p, what)); break;
            case 26: due("callus()", x.callus(), m.callus()); break;
            default: {
                int c = some(1, 9);
                int d = some(1, 9);
                n = some(1, 60);
                what = below(3) == 0 ? 0 : some(10, 9 + n);
                due("turnsOf(" + n + ", " + c + ", " + d + ", " + what + ")", x.turnsOf(n, c, d, what), m.turnsOf(n, c, d, what));
                break;
            }
        }
    }

    private void compareAll() {
        int before = told.size();
        for (int what = -1; what < 13; what++) {
            due("look(" + what + ")", x.look(what), m.look(what));
            for (int p = -1; p < 9; p++) {
                due("of(" + p + ", " + what + ")", x.of(p, what), m.of(p, what));
            }
            for (int h = -1; h < 17; h++) {
                due("at(" + h + ", " + what + ")", x.at(h, what), m.at(h, what));
                due("loan(" + h + ", " + what + ")", x.loan(h, what), m.loan(h, what));
            }
        }
        for (int i = -1; i < 101; i++) {
            for (int what = -1; what < 5; what++) {
                due("book(" + i + ", " + what + ")", x.book(i, what), m.book(i, what));
            }
        }
        if (!wrong) {
            told.subList(before, told.size()).clear();
        }
    }

    private void text(int k) {
        String s = k == 3 ? bookings() : k == 4 ? works() : law(Math.floorMod(k, 3));
        int hurt = below(3) == 0 ? 1 + below(2) : 0;
        for (int i = 0; i < hurt; i++) {
            s = spoiled(s);
        }
        s = s.length() > 400 ? s.substring(0, 400) : s;
        told.add("  text: " + s);
        for (int i = 0; i < s.length(); i += 20) {
            int[] five = new int[5];
            for (int j = 0; j < 20; j++) {
                int c = i + j < s.length() ? s.charAt(i + j) : 32;
                five[j / 4] = five[j / 4] << 8 | c;
            }
            due("feed", x.feed(five[0], five[1], five[2], five[3], five[4]), m.feed(five));
        }
        int n = below(30) == 0 ? some(0, s.length() + 20) : s.length();
        due("end(" + n + ")", x.end(n), m.end(n));
        due("text(" + k + ")", x.text(k), m.text(k));
        due("fault(0)", x.fault(0), m.fault(0));
        due("fault(1)", x.fault(1), m.fault(1));
        due("fault(2)", x.fault(2), m.fault(2));
        due("end(0)", x.end(0), m.end(0));
        due("end(1)", x.end(1), m.end(1));
    }

    private String spoiled(String s) {
        int at = s.isEmpty() ? 0 : below(s.length() + 1);
        String[] bits = {";", "not ", "( ", ")", " 0 ", "12345", " 7 ", "/ 0 ", " or ", " and ", "When ", "\t", "\n", "\u00e9",
            "lend ", "may ", "left ", "x", "<", "*", "-", " price 100 ", " for 0 ", " both ", "\0"};
        int to = Math.min(s.length(), at + below(6));
        switch (below(4)) {
            case 0: return s.substring(0, at);
            case 1: return s.substring(0, at) + s.substring(to);
            default: return s.substring(0, at) + bits[below(bits.length)] + s.substring(at);
        }
    }

    private String blank() {
        return below(12) == 0 ? "\n" : below(8) == 0 ? "  " : " ";
    }

    private String law(int k) {
        StringBuilder s = new StringBuilder();
        int lines = below(15) == 0 ? 15 + below(4) : below(6);
        boolean few = lines > 8;
        for (int i = 0; i < lines; i++) {
            List<String> verbs = Model.Parser.VERBS.get(k);
            s.append(verbs.get(below(verbs.size())));
            if (k == 1) {
                s.append(blank()).append(few ? "" + below(10) : e(k));
            }
            if (!few && below(6) > 0) {
                s.append(blank()).append("when").append(blank()).append(b(k, below(40) == 0 ? 9 : 2));
            }
            s.append(below(2) == 0 ? ";" : " ;").append(below(3) == 0 ? "" : blank());
        }
        return s.toString();
    }

    private String b(int k, int depth) {
        StringBuilder s = new StringBuilder(c(k, depth));
        for (int i = below(4) - 1; i > 0; i--) {
            s.append(blank()).append(below(2) == 0 ? "or" : "and").append(blank()).append(c(k, depth - 1));
        }
        return s.toString();
    }

    private String c(int k, int depth) {
        if (depth > 0 && (depth > 3 ? below(8) > 0 : below(4) == 0)) {
            return below(2) == 0 ? "not" + blank() + c(k, depth - 1) : "(" + (below(2) == 0 ? "" : " ") + b(k, depth - 1) + ")";
        }
        return e(k) + blank() + "<=>".charAt(below(3)) + blank() + e(k);
    }

    private String e(int k) {
        StringBuilder s = new StringBuilder(u(k));
        for (int i = below(5) - 2; i > 0; i--) {
            int sign = below(4);
            s.append(blank()).append("+-*/".charAt(sign)).append(blank());
            s.append(sign == 3 ? "" + (1 + below(below(2) == 0 ? 5 : 9999)) : u(k));
        }
        return s.toString();
    }

    private String u(int k) {
        List<String> asks = Model.Parser.ASKS.get(k);
        if (below(2) == 0) {
            return asks.get(below(asks.size()));
        }
        switch (below(6)) {
            case 0: return "" + below(10000);
            case 1: return "00" + below(100);
            case 2: return "" + below(100);
            default: return "" + below(12);
        }
    }

    private String bookings() {
        StringBuilder s = new StringBuilder();
        int lines = below(10) == 0 ? 15 + below(4) : below(9);
        for (int i = 0; i < lines; i++) {
            int at = Math.max(0, m.now.hour + (below(4) == 0 ? below(320) : below(15)));
            s.append(lines > 12 ? "lend " : "lend" + blank()).append(below(Math.max(1, m.now.hands.size()))).append(" to ")
                .append(below(Math.max(1, m.now.people.size()))).append(" at ").append(at).append(" for ").append(1 + below(below(2) == 0 ? 9 : 99));
            if (lines <= 12 && below(2) == 0) {
                s.append(" price ").append(below(below(2) == 0 ? 6 : 100));
            }
            s.append(";");
        }
        return s.toString();
    }

    private String works() {
        StringBuilder s = new StringBuilder();
        int lines = below(9) == 0 ? 9 : below(9);
        for (int i = 0; i < lines; i++) {
            s.append("work ").append(below(4)).append(" needs ").append(below(100)).append(blank()).append("pays ")
                .append(below(2) == 0 ? below(4) : below(100)).append(below(3) == 0 ? " both;" : " ;");
        }
        return s.toString();
    }
}
