import java.util.ArrayList;
import java.util.HashMap;
import java.util.LinkedHashSet;
import java.util.List;
import java.util.Map;
import java.util.Set;
import java.util.TreeSet;
import java.util.regex.Matcher;
import java.util.regex.Pattern;

/**
 * The document once more, written for plainness alone (objects, trees, whole copies, all ways tried), so that
 * FuzzTest can hold the class against something that shares no line with it.
 */
final class Model {
    static final int NONE = -1;

    static final class Person {
        int coin;
        int child;
        int task = NONE;
        int guilt;

        Person copy() {
            Person p = new Person();
            p.coin = coin;
            p.child = child;
            p.task = task;
            p.guilt = guilt;
            return p;
        }
    }

    static final class Hand {
        int id;
        int[] skill = new int[4];
        int wear;
        int scars;
        int held;
        Set<Integer> marks = new TreeSet<>();
        int on;

        int born() {
            return id / 2;
        }

        int side() {
            return id % 2;
        }

        int best() {
            return Math.max(Math.max(skill[0], skill[1]), Math.max(skill[2], skill[3]));
        }

        void move(int to) {
            on = to;
            held = 0;
        }

        Hand copy() {
            Hand h = new Hand();
            h.id = id;
            h.skill = skill.clone();
            h.wear = wear;
            h.scars = scars;
            h.held = held;
            h.marks = new TreeSet<>(marks);
            h.on = on;
            return h;
        }
    }

    record Loan(int hand, int from, int to, int end, int price) { }

    record Deed(int hour, int hand, int person, int whose) { }

    record Booking(int hand, int to, int at, int hours, int price) { }

    record Work(int kind, int needs, int pays, boolean both) { }

    interface Tree {
        int value(Map<String, Integer> asked);
    }

    record Line(String word, Tree amount, Tree when) {
        boolean applies(Map<String, Integer> asked) {
            return when == null || when.value(asked) != 0;
        }
    }

    static final class Fault extends RuntimeException {
        private static final long serialVersionUID = 1;
        final int number;
        final int place;

        Fault(int number, int place) {
            this.number = number;
            this.place = place;
        }
    }

    /** What can be undone. */
    static final class Acts {
        int draws;
        int hour;
        List<Person> people = new ArrayList<>();
        List<Hand> hands = new ArrayList<>();
        List<Loan> loans = new ArrayList<>();
        List<Deed> book = new ArrayList<>();

        Acts copy() {
            Acts a = new Acts();
            a.draws = draws;
            a.hour = hour;
            for (Person p : people) {
                a.people.add(p.copy());
            }
            for (Hand h : hands) {
                a.hands.add(h.copy());
            }
            a.loans.addAll(loans);
            a.book.addAll(book);
            return a;
        }

        Hand wrist(int person, int side) {
            for (Hand h : hands) {
                if (h.on == person && h.side() == side) {
                    return h;
                }
            }
            return null;
        }

        List<Loan> loansOf(int hand) {
            List<Loan> of = new ArrayList<>();
            for (Loan l : loans) {
                if (l.hand == hand) {
                    of.add(l);
                }
            }
            return of;
        }
    }

    Acts now = new Acts();
    List<Acts> undoable = new ArrayList<>();
    List<List<Line>> laws = new ArrayList<>(List.of(List.of(), List.of(), List.of()));
    List<Booking> bookings = List.of();
    List<Work> works = List.of();
    Acts imageActs;
    List<List<Line>> imageLaws;
    List<Booking> imageBookings;
    List<Work> imageWorks;
    StringBuilder tape = new StringBuilder();
    int fault;
    int faultPlace = NONE;

    boolean isPerson(int p) {
        return p >= 0 && p < now.people.size();
    }

    boolean isHand(int h) {
        return h >= 0 && h < now.hands.size();
    }

    static int set(Iterable<Integer> members) {
        int bits = 0;
        for (int m : members) {
            bits |= 1 << m;
        }
        return bits;
    }

    // ---- the laws ----

    static void common(Map<String, Integer> asked, Acts a, Hand h, int person) {
        asked.put("left", h.side() == 0 ? 1 : 0);
        asked.put("scars", h.scars);
        asked.put("own", h.born() == person ? 1 : 0);
        asked.put("child", a.people.get(person).child);
    }

    boolean lawMay(Acts a, Hand h, int to, int hours, int price) {
        Map<String, Integer> asked = new HashMap<>();
        common(asked, a, h, to);
        asked.put("best", h.best());
        asked.put("worn", h.wear);
        asked.put("hours", hours);
        asked.put("price", price);
        asked.put("coin", a.people.get(to).coin);
        asked.put("chain", a.loansOf(h.id).size());
        for (Line line : laws.get(0)) {
            if (line.applies(asked)) {
                return line.word.equals("may");
            }
        }
        return true;
    }

    int amount(String word, Map<String, Integer> asked, int most) {
        for (Line line : laws.get(1)) {
            if (line.word.equals(word) && line.applies(asked)) {
                return Math.min(most, Math.max(0, line.amount.value(asked)));
            }
        }
        return 0;
    }

    int whoseDeed(int person, Hand h, int more) {
        Map<String, Integer> asked = new HashMap<>();
        common(asked, now, h, person);
        asked.put("best", h.best());
        asked.put("held", h.held + more);
        List<Loan> chain = now.loansOf(h.id);
        asked.put("price", chain.isEmpty() ? 0 : chain.get(chain.size() - 1).price);
        for (Line line : laws.get(2)) {
            if (line.applies(asked)) {
                return List.of("hand", "head", "both", "none").indexOf(line.word);
            }
        }
        return 1;
    }

    // ---- acts ----

    boolean lendable(Acts a, int hand, int to, int hours, int price) {
        if (!isHand(hand) || !isPerson(to) || hours < 1 || hours > 99 || price < 0 || price > 99) {
            return false;
        }
        Hand h = a.hands.get(hand);
        if (h.on == NONE || h.on == to || a.loans.size() == 16 || a.people.get(to).coin < hours * price) {
            return false;
        }
        for (Loan l : a.loansOf(hand)) {
            // Each LOAN of a chain ends no later than those ahead of it: the latest is the least.
            if (a.hour + hours > l.end) {
                return false;
            }
        }
        return lawMay(a, h, to, hours, price);
    }

    void borrow(Acts a, int hand, int to, int hours, int price) {
        Hand h = a.hands.get(hand);
        int from = h.on;
        a.people.get(to).coin -= hours * price;
        a.people.get(from).coin = Math.min(9999, a.people.get(from).coin + hours * price);
        Hand there = a.wrist(to, h.side());
        if (there != null) {
            there.move(NONE);
        }
        h.move(to);
        a.loans.add(new Loan(hand, from, to, a.hour + hours, price));
    }

    /** One HOUR: the numbers of the BOOKINGS that FAILED. */
    List<Integer> hour(Acts a, boolean draws) {
        List<Integer> failed = new ArrayList<>();
        for (int i = 0; i < bookings.size(); i++) {
            Booking b = bookings.get(i);
            if (b.at == a.hour) {
                if (lendable(a, b.hand, b.to, b.hours, b.price)) {
                    borrow(a, b.hand, b.to, b.hours, b.price);
                } else {
                    failed.add(i);
                }
            }
        }
        for (int p = 0; p < a.people.size(); p++) {
            int kind = a.people.get(p).task;
            for (int side = 0; side < 2 && kind != NONE; side++) {
                Hand h = a.wrist(p, side);
                if (h != null) {
                    work(a, p, h, kind, draws);
                }
            }
        }
        for (Hand h : a.hands) {
            if (h.on != NONE) {
                h.held++;
                h.marks.add(h.on);
            }
        }
        a.hour++;
        List<Loan> ended = new ArrayList<>();
        for (Loan l : a.loans) {
            if (l.end <= a.hour) {
                ended.add(0, l);
            }
        }
        for (Loan l : ended) {
            a.loans.remove(a.loans.lastIndexOf(l));
            Hand h = a.hands.get(l.hand);
            h.move(NONE);
            if (a.wrist(l.from, h.side()) == null) {
                h.move(l.from);
            }
            Hand own = a.hands.get(2 * l.to + h.side());
            if (own.on == NONE && a.wrist(l.to, h.side()) == null) {
                own.move(l.to);
            }
        }
        return failed;
    }

    int work(Acts a, int person, Hand h, int kind, boolean draws) {
        Map<String, Integer> asked = new HashMap<>();
        common(asked, a, h, person);
        asked.put("skill", h.skill[kind]);
        asked.put("worn", h.wear);
        asked.put("held", h.held);
        asked.put("kind", kind);
        asked.put("hour", a.hour);
        int learn = amount("learn", asked, 9);
        int wear = amount("wear", asked, 9);
        int pay = amount("pay", asked, 99);
        int scar = amount("scar", asked, 1000);
        h.skill[kind] = Math.min(99, h.skill[kind] + learn);
        h.wear = Math.min(99, h.wear + wear);
        a.people.get(person).coin = Math.min(9999, a.people.get(person).coin + pay);
        if (draws && scar > 0) {
            a.draws = 1664525 * a.draws + 1013904223;
            long unsigned = a.draws & 0xffffffffL;
            if (unsigned / 256 % 1000 < scar) {
                h.scars = Math.min(9, h.scars + 1);
            }
        }
        return scar;
    }

    void act() {
        undoable.add(now.copy());
        if (undoable.size() > 6) {
            undoable.remove(0);
        }
    }

    // ---- the face ----

    int state(int v) {
        int was = now.draws;
        now.draws = v;
        undoable.clear();
        return was;
    }

    int person(int coin, int child) {
        if (coin < 0 || coin > 9999 || child < 0 || child > 1 || now.people.size() == 8) {
            return NONE;
        }
        int p = now.people.size();
        Person person = new Person();
        person.coin = coin;
        person.child = child;
        now.people.add(person);
        for (int side = 0; side < 2; side++) {
            Hand h = new Hand();
            h.id = 2 * p + side;
            h.on = p;
            now.hands.add(h);
        }
        undoable.clear();
        return p;
    }

    boolean set(int what, int who, int v) {
        int most = what == 0 ? 9999 : what == 1 ? 1 : what == 7 ? 9 : 99;
        if (what < 0 || what > 7 || v < 0 || v > most || !(what < 2 ? isPerson(who) : isHand(who))) {
            return false;
        }
        switch (what) {
            case 0 -> now.people.get(who).coin = v;
            case 1 -> now.people.get(who).child = v;
            case 6 -> now.hands.get(who).wear = v;
            case 7 -> now.hands.get(who).scars = v;
            default -> now.hands.get(who).skill[what - 2] = v;
        }
        undoable.clear();
        return true;
    }

    int lend(int hand, int to, int hours, int price) {
        if (!lendable(now, hand, to, hours, price)) {
            return NONE;
        }
        act();
        borrow(now, hand, to, hours, price);
        return now.hour + hours;
    }

    boolean leave(int person, int side) {
        if (!isPerson(person) || side < 0 || side > 1 || now.hands.get(2 * person + side).on != person) {
            return false;
        }
        act();
        now.hands.get(2 * person + side).move(NONE);
        return true;
    }

    boolean fetch(int person, int side) {
        if (!isPerson(person) || side < 0 || side > 1 || now.hands.get(2 * person + side).on != NONE
            || now.wrist(person, side) != null) {
            return false;
        }
        act();
        now.hands.get(2 * person + side).move(person);
        return true;
    }

    boolean task(int person, int kind) {
        if (!isPerson(person) || kind < NONE || kind > 3) {
            return false;
        }
        act();
        now.people.get(person).task = kind;
        return true;
    }

    Hand has(int person, int side) {
        return isPerson(person) && (side == 0 || side == 1) ? now.wrist(person, side) : null;
    }

    int deed(int person, int side) {
        Hand h = has(person, side);
        if (h == null) {
            return NONE;
        }
        act();
        int whose = whoseDeed(person, h, 0);
        if (whose == 0 || whose == 2) {
            now.people.get(h.born()).guilt++;
        }
        if (whose == 1 || whose == 2) {
            now.people.get(person).guilt++;
        }
        if (now.book.size() < 100) {
            now.book.add(new Deed(now.hour, h.id, person, whose));
        }
        return whose;
    }

    int hours(int n) {
        if (n < 1 || n > 100 || now.hour + n > 9999) {
            return NONE;
        }
        int failed = 0;
        for (int i = 0; i < n; i++) {
            act();
            failed += hour(now, true).size();
        }
        return failed;
    }

    int feed(int... numbers) {
        if (tape.length() > 380) {
            return NONE;
        }
        for (int n : numbers) {
            for (int i = 3; i >= 0; i--) {
                tape.append((char) (n >> 8 * i & 0xff));
            }
        }
        return tape.length();
    }

    boolean end(int n) {
        if (n < 0 || n > tape.length()) {
            return false;
        }
        tape.setLength(n);
        return true;
    }

    int text(int k) {
        String told = tape.toString();
        tape.setLength(0);
        fault = 0;
        faultPlace = NONE;
        try {
            if (k >= 0 && k < 3) {
                laws.set(k, new Parser(told).law(k));
                return laws.get(k).size();
            }
            if (k == 3) {
                bookings = new Parser(told).bookings(now.people.size());
                undoable.clear();
                return bookings.size();
            }
            if (k == 4) {
                works = new Parser(told).works();
                return works.size();
            }
            return NONE;
        } catch (Fault f) {
            fault = f.number;
            faultPlace = f.place;
            return NONE;
        }
    }

    int fault(int what) {
        return what == 0 ? fault : what == 1 ? faultPlace : NONE;
    }

    int of(int person, int what) {
        if (!isPerson(person) || what < 0 || what > 7) {
            return NONE - 1;
        }
        Person p = now.people.get(person);
        if (what >= 6) {
            return ring(person, what - 6);
        }
        if (what >= 4) {
            Hand h = now.wrist(person, what - 4);
            return h == null ? NONE : h.id;
        }
        return new int[] {p.coin, p.child, p.task, p.guilt}[what];
    }

    int ring(int person, int side) {
        Set<Integer> round = new LinkedHashSet<>();
        int p = person;
        while (round.add(p)) {
            Hand h = now.wrist(p, side);
            if (h == null) {
                return 0;
            }
            p = h.born();
        }
        return p == person ? round.size() : 0;
    }

    int at(int hand, int what) {
        if (!isHand(hand) || what < 0 || what > 10) {
            return NONE - 1;
        }
        Hand h = now.hands.get(hand);
        List<Loan> chain = now.loansOf(hand);
        int end = chain.isEmpty() ? NONE : chain.get(chain.size() - 1).end;
        return new int[] {h.skill[0], h.skill[1], h.skill[2], h.skill[3], h.wear, h.scars, set(h.marks), h.held,
            h.on, chain.size(), end}[what];
    }

    int loan(int i, int what) {
        if (i < 0 || i >= now.loans.size() || what < 0 || what > 4) {
            return NONE;
        }
        Loan l = now.loans.get(i);
        return new int[] {l.hand, l.from, l.to, l.end, l.price}[what];
    }

    int book(int i, int what) {
        if (i < 0 || i >= now.book.size() || what < 0 || what > 3) {
            return NONE;
        }
        Deed d = now.book.get(i);
        return new int[] {d.hour, d.hand, d.person, d.whose}[what];
    }

    int may(int hand, int to, int hours, int price) {
        if (!isHand(hand) || !isPerson(to) || hours < 1 || hours > 99 || price < 0 || price > 99) {
            return NONE;
        }
        return lawMay(now, now.hands.get(hand), to, hours, price) ? 1 : 0;
    }

    boolean does(int person, Work w, Hand left, Hand right) {
        boolean byLeft = left != null && left.skill[w.kind] >= w.needs;
        boolean byRight = right != null && right.skill[w.kind] >= w.needs;
        return w.both ? byLeft && byRight : byLeft || byRight;
    }

    boolean does(Acts a, int person, Work w) {
        return does(person, w, a.wrist(person, 0), a.wrist(person, 1));
    }

    int can(int person, int work) {
        if (!isPerson(person) || work < 0 || work >= works.size()) {
            return NONE;
        }
        return does(now, person, works.get(work)) ? 1 : 0;
    }

    int bestPay;
    List<Integer> bestWay;

    /** All ways, in the order in which the first is to be found. */
    void ways(List<Integer> way, int sum, int still) {
        int i = way.size();
        if (bestPay >= 0 && sum + still <= bestPay) {
            return;
        }
        if (i == works.size()) {
            bestPay = sum;
            bestWay = new ArrayList<>(way);
            return;
        }
        Work w = works.get(i);
        for (int p = NONE; p < now.people.size(); p++) {
            if (p == NONE || !way.contains(p) && does(now, p, w)) {
                way.add(p);
                ways(way, sum + (p == NONE ? 0 : w.pays), still - w.pays);
                way.remove(i);
            }
        }
    }

    int pay(int what) {
        bestPay = NONE;
        int all = 0;
        for (Work w : works) {
            all += w.pays;
        }
        ways(new ArrayList<>(), 0, all);
        if (what == 0) {
            return bestPay;
        }
        return what >= 10 && what < 10 + works.size() ? bestWay.get(what - 10) : NONE;
    }

    List<Integer> away(Acts a) {
        List<Integer> away = new ArrayList<>();
        for (Hand h : a.hands) {
            if (h.on != h.born()) {
                away.add(h.id);
            }
        }
        return away;
    }

    Acts later(int n) {
        Acts a = now.copy();
        for (int i = 0; i < n; i++) {
            hour(a, false);
        }
        return a;
    }

    int back() {
        Acts a = now.copy();
        for (int i = 0; i <= 300; i++) {
            if (away(a).isEmpty()) {
                return now.hour + i;
            }
            hour(a, false);
        }
        return NONE;
    }

    int where(int hand, int n) {
        return isHand(hand) && n >= 0 && n <= 300 ? later(n).hands.get(hand).on : NONE - 1;
    }

    int out(int n) {
        return n >= 0 && n <= 300 ? set(away(later(n))) : NONE;
    }

    int fails(int what) {
        Acts a = now.copy();
        for (int i = 0; i < 300; i++) {
            List<Integer> failed = hour(a, false);
            if (!failed.isEmpty()) {
                return what == 0 ? failed.get(0) : what == 1 ? now.hour + i : NONE;
            }
        }
        return NONE;
    }

    int bare() {
        List<Integer> bare = new ArrayList<>();
        for (int p = 0; p < now.people.size(); p++) {
            boolean one = now.hands.get(2 * p).on == p;
            boolean other = now.hands.get(2 * p + 1).on == p;
            if (!one && !other) {
                bare.add(p);
            }
        }
        return set(bare);
    }

    int whose(int people) {
        if (people < 0 || people >= 1 << now.people.size()) {
            return NONE;
        }
        List<Integer> found = new ArrayList<>();
        for (Hand h : now.hands) {
            if ((set(h.marks) | people) == set(h.marks)) {
                found.add(h.id);
            }
        }
        return set(found);
    }

    int ask(int hands) {
        if (hands < 0 || hands >= 1L << now.hands.size() || Integer.bitCount(hands) < 2) {
            return NONE;
        }
        int best = NONE;
        int bestPart = 99;
        for (int p = 0; p < now.people.size(); p++) {
            int[] parts = new int[2];
            for (Hand h : now.hands) {
                if ((hands & 1 << h.id) != 0) {
                    parts[h.marks.contains(p) ? 1 : 0]++;
                }
            }
            int part = Math.max(parts[0], parts[1]);
            if (part < bestPart) {
                best = p;
                bestPart = part;
            }
        }
        return best;
    }

    boolean tryable(int hand, int kind, int n) {
        return isHand(hand) && kind >= 0 && kind < 4 && n >= 0 && n <= 99 && now.hands.get(hand).on != NONE;
    }

    int learns(int hand, int kind, int n) {
        if (!tryable(hand, kind, n)) {
            return NONE;
        }
        Acts a = now.copy();
        Hand h = a.hands.get(hand);
        for (int i = 0; i < n; i++) {
            work(a, h.on, h, kind, false);
            h.held++;
            a.hour++;
        }
        return h.skill[kind];
    }

    int safe(int hand, int kind, int n) {
        if (!tryable(hand, kind, n)) {
            return NONE;
        }
        Acts a = now.copy();
        Hand h = a.hands.get(hand);
        long safe = 1000000;
        for (int i = 0; i < n; i++) {
            safe = safe * (1000 - work(a, h.on, h, kind, false)) / 1000;
            h.held++;
            a.hour++;
        }
        return (int) safe;
    }

    int finds(int person, int kind, int n, int hours) {
        if (kind < 0 || kind > 3) {
            return NONE;
        }
        for (Hand h : now.hands) {
            if (h.on != person && h.skill[kind] >= n && lendable(now, h.id, person, hours, 0)) {
                return h.id;
            }
        }
        return NONE;
    }

    int dear(int hand, int to, int hours) {
        int dear = NONE;
        for (int price = 0; price < 100; price++) {
            if (lendable(now, hand, to, hours, price)) {
                dear = price;
            }
        }
        return dear;
    }

    int wishes(int person, int work, int what) {
        if (!isPerson(person) || work < 0 || work >= works.size() || what < 0 || what > 2) {
            return NONE - 1;
        }
        for (int count = 0; count <= 2; count++) {
            for (int left = NONE; left < now.hands.size(); left++) {
                for (int right = NONE; right < now.hands.size(); right++) {
                    int loans = (left == NONE ? 0 : 1) + (right == NONE ? 0 : 1);
                    boolean sides = (left == NONE || left % 2 == 0) && (right == NONE || right % 2 == 1);
                    if (sides && loans == count && granted(person, works.get(work), left, right)) {
                        return new int[] {count, left, right}[what];
                    }
                }
            }
        }
        return NONE - 1;
    }

    boolean granted(int person, Work w, int left, int right) {
        Acts a = now.copy();
        for (int hand : new int[] {left, right}) {
            if (hand != NONE) {
                if (!lendable(a, hand, person, 1, 0)) {
                    return false;
                }
                borrow(a, hand, person, 1, 0);
            }
        }
        return does(a, person, w);
    }

    int spread(int kind, int n) {
        if (kind < 0 || kind > 3) {
            return NONE;
        }
        Set<Integer> who = new TreeSet<>();
        for (Hand h : now.hands) {
            if (h.on != NONE && h.skill[kind] >= n) {
                who.add(h.on);
            }
        }
        return set(who);
    }

    int judged(int person, int side, int n) {
        Hand h = has(person, side);
        return h == null || n < 0 || n > 99 ? NONE : whoseDeed(person, h, n);
    }

    int loophole(int person, int side) {
        Hand h = has(person, side);
        for (int n = 1; h != null && n <= 99; n++) {
            if (whoseDeed(person, h, n) != whoseDeed(person, h, 0)) {
                return n;
            }
        }
        return NONE;
    }

    int premium(int kind, int n) {
        if (kind < 0 || kind > 3 || n < 0 || n > 99) {
            return NONE;
        }
        int sum = 0;
        for (Hand h : now.hands) {
            if (h.on != NONE) {
                sum += 1000000 - safe(h.id, kind, n);
            }
        }
        return sum;
    }

    int chain(int hand, int i) {
        List<Loan> chain = isHand(hand) ? now.loansOf(hand) : List.of();
        return i >= 0 && i < chain.size() ? chain.get(i).from : NONE;
    }

    int owes(int person, int what) {
        if (!isPerson(person) || what < 0 || what > 1) {
            return NONE;
        }
        Set<Integer> hands = new TreeSet<>();
        for (Loan l : now.loans) {
            if ((what == 0 ? l.to : l.from) == person) {
                hands.add(l.hand);
            }
        }
        return set(hands);
    }

    int callus() {
        int callus = NONE;
        for (int hand : away(now)) {
            if (callus == NONE || now.hands.get(hand).wear > now.hands.get(callus).wear) {
                callus = hand;
            }
        }
        return callus;
    }

    int turnsOf(int n, int c, int d, int what) {
        if (n < 1 || n > 60 || c < 1 || c > 9 || d < 1 || d > 9) {
            return NONE;
        }
        List<Integer> turns = new ArrayList<>();
        int[] had = new int[2];
        for (int i = 0; i < n; i++) {
            int whose = had[0] * d <= had[1] * c ? 0 : 1;
            had[whose]++;
            turns.add(whose);
        }
        return what == 0 ? had[0] : what >= 10 && what < 10 + n ? turns.get(what - 10) : NONE;
    }

    boolean undo() {
        if (undoable.isEmpty()) {
            return false;
        }
        now = undoable.remove(undoable.size() - 1);
        return true;
    }

    boolean image(boolean taken) {
        if (taken) {
            imageActs = now.copy();
            imageLaws = new ArrayList<>(laws);
            imageBookings = bookings;
            imageWorks = works;
            return true;
        }
        if (imageActs == null) {
            return false;
        }
        now = imageActs.copy();
        laws = new ArrayList<>(imageLaws);
        bookings = imageBookings;
        works = imageWorks;
        undoable.clear();
        return true;
    }

    int look(int what) {
        List<Integer> office = new ArrayList<>();
        for (Hand h : now.hands) {
            if (h.on == NONE) {
                office.add(h.id);
            }
        }
        int[] all = {now.people.size(), now.hour, now.loans.size(), now.book.size(), now.draws, laws.get(0).size(),
            laws.get(1).size(), laws.get(2).size(), bookings.size(), works.size(), undoable.size(), set(office)};
        return what >= 0 && what < all.length ? all[what] : NONE;
    }

    /** A TEXT, read token by token. */
    static final class Parser {
        static final Pattern TOKEN = Pattern.compile("[A-Za-z]+|[0-9]+|[^ \n]", Pattern.DOTALL);
        static final List<List<String>> VERBS = List.of(List.of("may", "bar"), List.of("learn", "wear", "scar", "pay"),
            List.of("hand", "head", "both", "none"));
        static final List<List<String>> ASKS = List.of(
            List.of("left", "best", "worn", "scars", "hours", "price", "coin", "child", "own", "chain"),
            List.of("skill", "worn", "scars", "own", "left", "held", "child", "kind", "hour"),
            List.of("own", "best", "held", "price", "child", "scars", "left"));
        final List<String> tokens = new ArrayList<>();
        final List<Integer> places = new ArrayList<>();
        List<String> asks;
        int open;

        Parser(String text) {
            Matcher m = TOKEN.matcher(text);
            while (m.find()) {
                tokens.add(m.group());
                places.add(m.start());
            }
            places.add(text.length());
        }

        String peek() {
            return tokens.isEmpty() ? "" : tokens.get(0);
        }

        Fault fault(int number) {
            return new Fault(number, places.get(0));
        }

        String take() {
            places.remove(0);
            return tokens.remove(0);
        }

        boolean skip(String token) {
            if (!peek().equals(token)) {
                return false;
            }
            take();
            return true;
        }

        void need(String token) {
            if (!skip(token)) {
                throw fault(1);
            }
        }

        int number(int least, int most) {
            if (!peek().matches("[0-9]{1,4}")) {
                throw fault(1);
            }
            int n = Integer.parseInt(peek());
            if (n < least || n > most) {
                throw fault(2);
            }
            take();
            return n;
        }

        List<Line> law(int k) {
            List<Line> lines = new ArrayList<>();
            asks = ASKS.get(k);
            while (!tokens.isEmpty()) {
                if (!VERBS.get(k).contains(peek())) {
                    throw fault(1);
                }
                if (lines.size() == 16) {
                    throw fault(3);
                }
                String verb = take();
                Tree amount = k == 1 ? e() : null;
                Tree when = skip("when") ? b() : null;
                need(";");
                lines.add(new Line(verb, amount, when));
            }
            return lines;
        }

        Tree b() {
            Tree a = a();
            while (skip("or")) {
                Tree left = a;
                Tree right = a();
                a = asked -> left.value(asked) != 0 || right.value(asked) != 0 ? 1 : 0;
            }
            return a;
        }

        Tree a() {
            Tree c = c();
            while (skip("and")) {
                Tree left = c;
                Tree right = c();
                c = asked -> left.value(asked) != 0 && right.value(asked) != 0 ? 1 : 0;
            }
            return c;
        }

        Tree c() {
            if (peek().equals("not") || peek().equals("(")) {
                if (open == 8) {
                    throw fault(3);
                }
                open++;
                Tree inner;
                if (take().equals("not")) {
                    Tree c = c();
                    inner = asked -> c.value(asked) == 0 ? 1 : 0;
                } else {
                    inner = b();
                    need(")");
                }
                open--;
                return inner;
            }
            Tree left = e();
            String sign = peek();
            if (!List.of("<", "=", ">").contains(sign)) {
                throw fault(1);
            }
            take();
            Tree right = e();
            return asked -> {
                int order = Integer.compare(left.value(asked), right.value(asked));
                return (sign.equals("<") ? order < 0 : sign.equals("=") ? order == 0 : order > 0) ? 1 : 0;
            };
        }

        Tree e() {
            Tree t = t();
            while (peek().equals("+") || peek().equals("-")) {
                boolean plus = take().equals("+");
                Tree left = t;
                Tree right = t();
                t = asked -> plus ? left.value(asked) + right.value(asked) : left.value(asked) - right.value(asked);
            }
            return t;
        }

        Tree t() {
            Tree u = u();
            while (peek().equals("*") || peek().equals("/")) {
                Tree left = u;
                if (take().equals("*")) {
                    Tree right = u();
                    u = asked -> left.value(asked) * right.value(asked);
                } else {
                    int part = number(1, 9999);
                    u = asked -> left.value(asked) / part;
                }
            }
            return u;
        }

        Tree u() {
            String word = peek();
            if (asks.contains(word)) {
                take();
                return asked -> asked.get(word);
            }
            int n = number(0, 9999);
            return asked -> n;
        }

        List<Booking> bookings(int people) {
            List<Booking> lines = new ArrayList<>();
            while (!tokens.isEmpty()) {
                if (peek().equals("lend") && lines.size() == 16) {
                    throw fault(3);
                }
                need("lend");
                int hand = number(0, 2 * people - 1);
                need("to");
                int to = number(0, people - 1);
                need("at");
                int at = number(0, 9999);
                need("for");
                int hours = number(1, 99);
                int price = skip("price") ? number(0, 99) : 0;
                need(";");
                lines.add(new Booking(hand, to, at, hours, price));
            }
            return lines;
        }

        List<Work> works() {
            List<Work> lines = new ArrayList<>();
            while (!tokens.isEmpty()) {
                if (peek().equals("work") && lines.size() == 8) {
                    throw fault(3);
                }
                need("work");
                int kind = number(0, 3);
                need("needs");
                int needs = number(0, 99);
                need("pays");
                int pays = number(0, 99);
                boolean both = skip("both");
                need(";");
                lines.add(new Work(kind, needs, pays, both));
            }
            return lines;
        }
    }
}
