/** Hands that are lent, work, are scarred and judged, and all that can be asked of them in thought. */
public final class LentHands {
    public static final int NONE = -1;

    private static final int PEOPLE = 8;
    private static final int HANDS = 16;
    private static final int KINDS = 4;
    private static final int LOANS = 16;
    private static final int LINES = 16;
    private static final int WORKS = 8;
    private static final int BOOK_LINES = 100;
    private static final int TAPE = 400;
    private static final int FED = 20;
    private static final int KEPT = 6;
    private static final int OPEN_AT_MOST = 8;

    private static final int MOST_COIN = 9999;
    private static final int LAST_HOUR = 9999;
    private static final int MOST_SKILL = 99;
    private static final int MOST_WEAR = 99;
    private static final int MOST_SCARS = 9;
    private static final int MOST_HOURS = 99;
    private static final int MOST_PRICE = 99;
    private static final int MOST_NEEDS = 99;
    private static final int MOST_PAYS = 99;
    private static final int MOST_LEARNT = 9;
    private static final int MOST_WORN = 9;
    private static final int MOST_PAID = 99;
    private static final int THOUSAND = 1000;
    private static final int MILLION = 1000000;
    private static final int AHEAD = 300;
    private static final int HOURS_A_CALL = 100;
    private static final int HOURS_OF_TASK = 99;
    private static final int MOST_HELD = 99;
    private static final int MOST_TURNS = 60;
    private static final int MOST_SHARE = 9;

    // Rows of LOANS, THE BOOK, BOOKINGS and WORKS lie one behind the other in one array each:
    // an undoing or a thought then copies arrays and makes no objects.
    private static final int LOAN_CELLS = 5;
    private static final int LOAN_HAND = 0;
    private static final int LOAN_FROM = 1;
    private static final int LOAN_TO = 2;
    private static final int LOAN_END = 3;
    private static final int LOAN_PRICE = 4;
    private static final int BOOK_CELLS = 4;
    private static final int TABLE_CELLS = 5;
    private static final int BOOKED_HAND = 0;
    private static final int BOOKED_TO = 1;
    private static final int BOOKED_AT = 2;
    private static final int BOOKED_HOURS = 3;
    private static final int BOOKED_PRICE = 4;
    private static final int WORK_KIND = 0;
    private static final int WORK_NEEDS = 1;
    private static final int WORK_PAYS = 2;
    private static final int WORK_BOTH = 3;

    private static final int LOANS_LAW = 0;
    private static final int HANDS_LAW = 1;
    private static final int GUILT_LAW = 2;
    private static final int LAWS = 3;
    private static final int BOOKINGS_TEXT = 3;
    private static final int TEXTS = 5;

    // A KEYWORD is known by its number among these words; the ones that a LAW can ask stand first.
    private static final String WORDS =
        "left best worn scars hours price coin child own chain skill held kind hour when or and not may bar learn wear scar pay hand head both none lend to at for work needs pays";
    private static final int LEFT = 0;
    private static final int BEST = 1;
    private static final int WORN = 2;
    private static final int SCARS = 3;
    private static final int FOR_HOURS = 4;
    private static final int PRICE = 5;
    private static final int COIN = 6;
    private static final int CHILD = 7;
    private static final int OWN = 8;
    private static final int CHAIN = 9;
    private static final int SKILL = 10;
    private static final int HELD = 11;
    private static final int KIND = 12;
    private static final int HOUR = 13;
    private static final int ASKABLE = 14;
    private static final int WHEN = 14;
    private static final int OR = 15;
    private static final int AND = 16;
    private static final int NOT = 17;
    private static final int MAY = 18;
    private static final int LEARN = 20;
    private static final int WEAR = 21;
    private static final int SCAR = 22;
    private static final int PAY = 23;
    private static final int OF_HAND = 24;
    private static final int OF_HEAD = 25;
    private static final int OF_BOTH = 26;
    private static final int LEND = 28;
    private static final int TO = 29;
    private static final int AT = 30;
    private static final int FOR = 31;
    private static final int WORK = 32;
    private static final int NEEDS = 33;
    private static final int PAYS = 34;

    private static final int[] FIRST_VERB = {18, 20, 24};
    private static final int[] LAST_VERB = {19, 23, 27};
    // One bit for each word that the LAW may ask.
    private static final int[] ASKS = {
        1 << LEFT | 1 << BEST | 1 << WORN | 1 << SCARS | 1 << FOR_HOURS | 1 << PRICE | 1 << COIN | 1 << CHILD | 1 << OWN | 1 << CHAIN,
        1 << SKILL | 1 << WORN | 1 << SCARS | 1 << OWN | 1 << LEFT | 1 << HELD | 1 << CHILD | 1 << KIND | 1 << HOUR,
        1 << OWN | 1 << BEST | 1 << HELD | 1 << PRICE | 1 << CHILD | 1 << SCARS | 1 << LEFT};

    // Tokens: a KEYWORD is its number, a sign its character; these stand above both.
    private static final int NUMBER = 200;
    private static final int NO_TOKEN = 201;
    private static final int THE_END = 202;
    private static final int MOST_DIGITS = 4;

    private static final int CANNOT_STAND = 1;
    private static final int OUT_OF_BOUNDS = 2;
    private static final int TOO_MANY = 3;

    // A LAW's code: below ASK a NUMBER, then what is asked, then an operator by its token.
    private static final int ASK = 10000;
    private static final int OPERATOR = 20000;
    // B, and each of eight that can be open in it, hold two values, a comparison four: 22 at most.
    private static final int STACK = 32;

    private final World now = new World();
    private final World thought = new World();
    private final World[] kept = new World[KEPT];
    private int keptCount;
    private int keptNext;
    private final Texts texts = new Texts();
    private final int[] lines = new int[BOOK_LINES * BOOK_CELLS];
    private final World imageWorld = new World();
    private final Texts imageTexts = new Texts();
    private final int[] imageLines = new int[BOOK_LINES * BOOK_CELLS];
    private boolean imaged;
    private final char[] tape = new char[TAPE];
    private int taped;
    private final Reader reader = new Reader();
    private final Asked asked = new Asked();
    // What WORKS from i on can pay at most when a set of PEOPLE is already taken, at i * 256 + set.
    private final int[] plan = new int[(WORKS + 1) << PEOPLE];

    public LentHands() {
        for (int i = 0; i < KEPT; i++) {
            kept[i] = new World();
        }
    }

    // ---- telling ----

    public int state(int v) {
        int before = now.draws;
        now.draws = v;
        forget();
        return before;
    }

    public int person(int coin, int child) {
        if (!within(coin, 0, MOST_COIN) || !within(child, 0, 1) || now.people >= PEOPLE) {
            return NONE;
        }
        forget();
        return now.born(coin, child);
    }

    public boolean set(int what, int who, int v) {
        boolean told;
        if (what == 0 || what == 1) {
            told = now.hasPerson(who) && now.tellPerson(what == 0, who, v);
        } else {
            told = now.hasHand(who) && now.tellHand(what - 2, who, v);
        }
        if (told) {
            forget();
        }
        return told;
    }

    public int feed(int a, int b, int c, int d, int e) {
        if (taped + FED > TAPE) {
            return NONE;
        }
        feedNumber(a);
        feedNumber(b);
        feedNumber(c);
        feedNumber(d);
        feedNumber(e);
        return taped;
    }

    private void feedNumber(int number) {
        for (int shift = 24; shift >= 0; shift -= 8) {
            if (taped < TAPE) {
                tape[taped] = (char) (number >>> shift & 255);
                taped++;
            }
        }
    }

    public boolean end(int n) {
        if (!within(n, 0, taped)) {
            return false;
        }
        taped = n;
        return true;
    }

    public int text(int k) {
        reader.begin(tape, taped);
        taped = 0;
        if (!within(k, 0, TEXTS - 1)) {
            return NONE;
        }
        if (k < LAWS) {
            if (reader.readLaw(k)) {
                texts.laws[k].copyFrom(reader.law);
                return reader.law.lines;
            }
            return NONE;
        }
        boolean booked = k == BOOKINGS_TEXT;
        if (!reader.readTable(booked, now.people)) {
            return NONE;
        }
        if (booked) {
            texts.bookings.copyFrom(reader.table);
            // An undoing keeps no BOOKINGS.
            forget();
        } else {
            texts.works.copyFrom(reader.table);
        }
        return reader.table.lines;
    }

    public int fault(int what) {
        return what == 0 ? reader.fault : what == 1 ? reader.faultPlace : NONE;
    }

    // ---- acts ----

    public int lend(int hand, int to, int hours, int price) {
        if (!canBeLent(now, hand, to, hours, price)) {
            return NONE;
        }
        keep();
        return now.makeLoan(hand, to, hours, price);
    }

    public boolean leave(int person, int side) {
        int hand = onWrist(person, side);
        if (hand == NONE || hand != 2 * person + side) {
            return false;
        }
        keep();
        now.toOffice(hand);
        return true;
    }

    public boolean fetch(int person, int side) {
        if (!now.hasPerson(person) || !within(side, 0, 1)) {
            return false;
        }
        int hand = 2 * person + side;
        if (now.wrist[hand] != NONE || now.place[hand] != NONE) {
            return false;
        }
        keep();
        now.toWrist(hand, person);
        return true;
    }

    public boolean task(int person, int kind) {
        if (!now.hasPerson(person) || !within(kind, NONE, KINDS - 1)) {
            return false;
        }
        keep();
        now.task[person] = kind;
        return true;
    }

    public int deed(int person, int side) {
        int hand = onWrist(person, side);
        if (hand == NONE) {
            return NONE;
        }
        int guilty = judge(person, hand, 0);
        keep();
        if (guilty == OF_HAND || guilty == OF_BOTH) {
            now.guilt[hand >> 1]++;
        }
        if (guilty == OF_HEAD || guilty == OF_BOTH) {
            now.guilt[person]++;
        }
        writeDeed(hand, person, guilty - OF_HAND);
        return guilty - OF_HAND;
    }

    private void writeDeed(int hand, int person, int guilty) {
        if (now.bookLines < BOOK_LINES) {
            int row = now.bookLines * BOOK_CELLS;
            lines[row] = now.hour;
            lines[row + 1] = hand;
            lines[row + 2] = person;
            lines[row + 3] = guilty;
            now.bookLines++;
        }
    }

    public int hours(int n) {
        if (!within(n, 1, HOURS_A_CALL) || now.hour + n > LAST_HOUR) {
            return NONE;
        }
        int failed = 0;
        for (int i = 0; i < n; i++) {
            // Earlier HOURS would be pushed out by the later ones at once.
            if (n - i <= KEPT) {
                keep();
            }
            failed += Integer.bitCount(passHour(now, true));
        }
        return failed;
    }

    // ---- undoing and the image ----

    private void keep() {
        kept[keptNext].copyFrom(now);
        keptNext = (keptNext + 1) % KEPT;
        keptCount = Math.min(keptCount + 1, KEPT);
    }

    private void forget() {
        keptCount = 0;
    }

    public boolean undo() {
        if (keptCount == 0) {
            return false;
        }
        keptCount--;
        keptNext = (keptNext + KEPT - 1) % KEPT;
        now.copyFrom(kept[keptNext]);
        return true;
    }

    public boolean image(boolean taken) {
        if (taken) {
            imageWorld.copyFrom(now);
            imageTexts.copyFrom(texts);
            System.arraycopy(lines, 0, imageLines, 0, lines.length);
            imaged = true;
        } else if (imaged) {
            now.copyFrom(imageWorld);
            texts.copyFrom(imageTexts);
            System.arraycopy(imageLines, 0, lines, 0, lines.length);
            forget();
        }
        return imaged;
    }

    // ---- asking what is ----

    public int of(int person, int what) {
        if (!now.hasPerson(person)) {
            return NONE - 1;
        }
        switch (what) {
            case 0: return now.coin[person];
            case 1: return now.child[person];
            case 2: return now.task[person];
            case 3: return now.guilt[person];
            case 4: return now.wrist[2 * person];
            case 5: return now.wrist[2 * person + 1];
            case 6: return ring(person, 0);
            case 7: return ring(person, 1);
            default: return NONE - 1;
        }
    }

    private int ring(int person, int side) {
        int at = person;
        for (int steps = 1; steps <= PEOPLE; steps++) {
            int hand = onWrist(at, side);
            if (hand == NONE) {
                return 0;
            }
            at = hand >> 1;
            if (at == person) {
                return steps;
            }
        }
        return 0;
    }

    public int at(int hand, int what) {
        if (!now.hasHand(hand)) {
            return NONE - 1;
        }
        int latest = now.latestLoan(hand);
        switch (what) {
            case 0:
            case 1:
            case 2:
            case 3: return now.skill[hand * KINDS + what];
            case 4: return now.wear[hand];
            case 5: return now.scars[hand];
            case 6: return now.marks[hand];
            case 7: return now.held[hand];
            case 8: return now.place[hand];
            case 9: return now.loansOf(hand);
            case 10: return latest == NONE ? NONE : now.loanCell(latest, LOAN_END);
            default: return NONE - 1;
        }
    }

    public int loan(int i, int what) {
        if (!within(i, 0, now.loanCount - 1) || !within(what, 0, LOAN_CELLS - 1)) {
            return NONE;
        }
        return now.loanCell(i, what);
    }

    public int book(int i, int what) {
        if (!within(i, 0, now.bookLines - 1) || !within(what, 0, BOOK_CELLS - 1)) {
            return NONE;
        }
        return lines[i * BOOK_CELLS + what];
    }

    public int look(int what) {
        switch (what) {
            case 0: return now.people;
            case 1: return now.hour;
            case 2: return now.loanCount;
            case 3: return now.bookLines;
            case 4: return now.draws;
            case 5:
            case 6:
            case 7: return texts.laws[what - 5].lines;
            case 8: return texts.bookings.lines;
            case 9: return texts.works.lines;
            case 10: return keptCount;
            case 11: return inOffice();
            default: return NONE;
        }
    }

    private int inOffice() {
        int set = 0;
        for (int hand = 0; hand < 2 * now.people; hand++) {
            if (now.place[hand] == NONE) {
                set |= 1 << hand;
            }
        }
        return set;
    }

    public int chain(int hand, int i) {
        if (!now.hasHand(hand) || i < 0) {
            return NONE;
        }
        int elder = 0;
        for (int loan = 0; loan < now.loanCount; loan++) {
            if (now.loanCell(loan, LOAN_HAND) == hand) {
                if (elder == i) {
                    return now.loanCell(loan, LOAN_FROM);
                }
                elder++;
            }
        }
        return NONE;
    }

    public int owes(int person, int what) {
        if (!now.hasPerson(person) || !within(what, 0, 1)) {
            return NONE;
        }
        int cell = what == 0 ? LOAN_TO : LOAN_FROM;
        int set = 0;
        for (int loan = 0; loan < now.loanCount; loan++) {
            if (now.loanCell(loan, cell) == person) {
                set |= 1 << now.loanCell(loan, LOAN_HAND);
            }
        }
        return set;
    }

    public int callus() {
        int most = NONE;
        for (int hand = 0; hand < 2 * now.people; hand++) {
            if (!now.isHome(hand) && (most == NONE || now.wear[hand] > now.wear[most])) {
                most = hand;
            }
        }
        return most;
    }

    public int bare() {
        int set = 0;
        for (int person = 0; person < now.people; person++) {
            if (!now.isHome(2 * person) && !now.isHome(2 * person + 1)) {
                set |= 1 << person;
            }
        }
        return set;
    }

    public int spread(int kind, int n) {
        if (!within(kind, 0, KINDS - 1)) {
            return NONE;
        }
        int set = 0;
        for (int hand = 0; hand < 2 * now.people; hand++) {
            int person = now.place[hand];
            if (person != NONE && now.skill[hand * KINDS + kind] >= n) {
                set |= 1 << person;
            }
        }
        return set;
    }

    public int whose(int people) {
        if (!within(people, 0, (1 << now.people) - 1)) {
            return NONE;
        }
        int set = 0;
        for (int hand = 0; hand < 2 * now.people; hand++) {
            if ((now.marks[hand] & people) == people) {
                set |= 1 << hand;
            }
        }
        return set;
    }

    public int ask(int hands) {
        int size = Integer.bitCount(hands);
        if (!within(hands, 0, (1 << 2 * now.people) - 1) || size < 2) {
            return NONE;
        }
        int best = NONE;
        int leastLeft = HANDS + 1;
        for (int person = 0; person < now.people; person++) {
            int marked = markedAmong(hands, person);
            int left = Math.max(marked, size - marked);
            if (left < leastLeft) {
                best = person;
                leastLeft = left;
            }
        }
        return best;
    }

    private int markedAmong(int hands, int person) {
        int marked = 0;
        for (int hand = 0; hand < 2 * now.people; hand++) {
            if ((hands >> hand & 1) == 1 && (now.marks[hand] >> person & 1) == 1) {
                marked++;
            }
        }
        return marked;
    }

    public int turnsOf(int n, int c, int d, int what) {
        if (!within(n, 1, MOST_TURNS) || !within(c, 1, MOST_SHARE) || !within(d, 1, MOST_SHARE)) {
            return NONE;
        }
        if (what != 0 && !within(what, 10, 9 + n)) {
            return NONE;
        }
        int had = 0;
        for (int hour = 0; hour < n; hour++) {
            boolean hers = had * d <= (hour - had) * c;
            if (what == 10 + hour) {
                return hers ? 0 : 1;
            }
            if (hers) {
                had++;
            }
        }
        return had;
    }

    // ---- loans in thought ----

    public int may(int hand, int to, int hours, int price) {
        if (!now.hasHand(hand) || !now.hasPerson(to)) {
            return NONE;
        }
        if (!within(hours, 1, MOST_HOURS) || !within(price, 0, MOST_PRICE)) {
            return NONE;
        }
        return lawLends(now, hand, to, hours, price) ? 1 : 0;
    }

    private boolean lawLends(World w, int hand, int to, int hours, int price) {
        int[] value = asked.value;
        askOfHand(w, hand, to);
        value[FOR_HOURS] = hours;
        value[PRICE] = price;
        value[COIN] = w.coin[to];
        value[CHAIN] = w.loansOf(hand);
        int verb = texts.laws[LOANS_LAW].firstVerb(asked);
        return verb == NONE || verb == MAY;
    }

    private boolean canBeLent(World w, int hand, int to, int hours, int price) {
        if (!w.hasHand(hand) || !w.hasPerson(to) || w.place[hand] == NONE || w.place[hand] == to) {
            return false;
        }
        if (!within(hours, 1, MOST_HOURS) || !within(price, 0, MOST_PRICE)) {
            return false;
        }
        if (w.loanCount >= LOANS || w.coin[to] < hours * price) {
            return false;
        }
        int latest = w.latestLoan(hand);
        if (latest != NONE && w.hour + hours > w.loanCell(latest, LOAN_END)) {
            return false;
        }
        return lawLends(w, hand, to, hours, price);
    }

    public int finds(int person, int kind, int n, int hours) {
        if (!now.hasPerson(person) || !within(kind, 0, KINDS - 1)) {
            return NONE;
        }
        for (int hand = 0; hand < 2 * now.people; hand++) {
            if (now.skill[hand * KINDS + kind] >= n && canBeLent(now, hand, person, hours, 0)) {
                return hand;
            }
        }
        return NONE;
    }

    public int dear(int hand, int to, int hours) {
        for (int price = MOST_PRICE; price >= 0; price--) {
            if (canBeLent(now, hand, to, hours, price)) {
                return price;
            }
        }
        return NONE;
    }

    // ---- works ----

    public int can(int person, int work) {
        if (!now.hasPerson(person) || !within(work, 0, texts.works.lines - 1)) {
            return NONE;
        }
        return canDo(person, work) ? 1 : 0;
    }

    private boolean canDo(int person, int work) {
        return suffice(work, now.wrist[2 * person], now.wrist[2 * person + 1]);
    }

    private boolean suffice(int work, int left, int right) {
        boolean byLeft = suffices(work, left);
        boolean byRight = suffices(work, right);
        return texts.works.cell(work, WORK_BOTH) == 1 ? byLeft && byRight : byLeft || byRight;
    }

    private boolean suffices(int work, int hand) {
        int kind = texts.works.cell(work, WORK_KIND);
        return now.hasHand(hand) && now.skill[hand * KINDS + kind] >= texts.works.cell(work, WORK_NEEDS);
    }

    public int pay(int what) {
        int works = texts.works.lines;
        if (what != 0 && !within(what, 10, 9 + works)) {
            return NONE;
        }
        for (int taken = 0; taken < 1 << now.people; taken++) {
            plan[(works << PEOPLE) + taken] = 0;
        }
        for (int work = works - 1; work >= 0; work--) {
            planWork(work);
        }
        return what == 0 ? plan[0] : doer(what - 10);
    }

    private void planWork(int work) {
        int row = work << PEOPLE;
        int next = work + 1 << PEOPLE;
        int pays = texts.works.cell(work, WORK_PAYS);
        int doers = doersOf(work);
        for (int taken = 0; taken < 1 << now.people; taken++) {
            int most = plan[next + taken];
            for (int person = 0; person < now.people; person++) {
                if (((doers & ~taken) >> person & 1) == 1) {
                    most = Math.max(most, pays + plan[next + (taken | 1 << person)]);
                }
            }
            plan[row + taken] = most;
        }
    }

    private int doersOf(int work) {
        int set = 0;
        for (int person = 0; person < now.people; person++) {
            if (canDo(person, work)) {
                set |= 1 << person;
            }
        }
        return set;
    }

    private int doer(int work) {
        int taken = 0;
        int who = NONE;
        for (int i = 0; i <= work; i++) {
            who = firstDoer(i, taken);
            if (who != NONE) {
                taken |= 1 << who;
            }
        }
        return who;
    }

    private int firstDoer(int work, int taken) {
        int next = work + 1 << PEOPLE;
        int most = plan[(work << PEOPLE) + taken];
        if (plan[next + taken] == most) {
            return NONE;
        }
        int pays = texts.works.cell(work, WORK_PAYS);
        int free = doersOf(work) & ~taken;
        for (int person = 0; person < now.people; person++) {
            if ((free >> person & 1) == 1 && pays + plan[next + (taken | 1 << person)] == most) {
                return person;
            }
        }
        return NONE;
    }

    public int wishes(int person, int work, int what) {
        if (!now.hasPerson(person) || !within(work, 0, texts.works.lines - 1) || !within(what, 0, 2)) {
            return NONE - 1;
        }
        if (canDo(person, work)) {
            return wished(what, 0, NONE, NONE);
        }
        int right = oneWish(person, work, 1);
        if (right != NONE) {
            return wished(what, 1, NONE, right);
        }
        int left = oneWish(person, work, 0);
        if (left != NONE) {
            return wished(what, 1, left, NONE);
        }
        for (left = 0; left < 2 * now.people; left += 2) {
            right = secondWish(person, work, left);
            if (right != NONE) {
                return wished(what, 2, left, right);
            }
        }
        return NONE - 1;
    }

    private static int wished(int what, int loans, int left, int right) {
        return what == 0 ? loans : what == 1 ? left : right;
    }

    /** The least HAND of a side by the LOAN of which alone the PERSON can do the WORK. */
    private int oneWish(int person, int work, int side) {
        int other = now.wrist[2 * person + 1 - side];
        for (int hand = side; hand < 2 * now.people; hand += 2) {
            if (suffice(work, hand, other) && canBeLent(now, hand, person, 1, 0)) {
                return hand;
            }
        }
        return NONE;
    }

    /** The least right HAND that can be lent behind this left one, so that both do for the WORK. */
    private int secondWish(int person, int work, int left) {
        if (!canBeLent(now, left, person, 1, 0)) {
            return NONE;
        }
        thought.copyFrom(now);
        thought.makeLoan(left, person, 1, 0);
        for (int right = 1; right < 2 * now.people; right += 2) {
            if (suffice(work, left, right) && canBeLent(thought, right, person, 1, 0)) {
                return right;
            }
        }
        return NONE;
    }

    // ---- hours ----

    /** One HOUR; answers the BOOKINGS that FAILED in it, as a set. In thought no HAND is scarred. */
    private int passHour(World w, boolean real) {
        int failed = runBookings(w);
        for (int person = 0; person < w.people; person++) {
            if (w.task[person] != NONE) {
                toilOn(w, person, 0, real);
                toilOn(w, person, 1, real);
            }
        }
        w.growOld();
        w.endLoans();
        return failed;
    }

    private int runBookings(World w) {
        Table bookings = texts.bookings;
        int failed = 0;
        for (int i = 0; i < bookings.lines; i++) {
            if (bookings.cell(i, BOOKED_AT) == w.hour) {
                int hand = bookings.cell(i, BOOKED_HAND);
                int to = bookings.cell(i, BOOKED_TO);
                int hours = bookings.cell(i, BOOKED_HOURS);
                int price = bookings.cell(i, BOOKED_PRICE);
                if (canBeLent(w, hand, to, hours, price)) {
                    w.makeLoan(hand, to, hours, price);
                } else {
                    failed |= 1 << i;
                }
            }
        }
        return failed;
    }

    private void toilOn(World w, int person, int side, boolean real) {
        int hand = w.wrist[2 * person + side];
        if (hand != NONE) {
            int scar = toil(w, person, hand, w.task[person]);
            if (real && scar > 0 && w.drawOfThousand() < scar) {
                w.scars[hand] = Math.min(w.scars[hand] + 1, MOST_SCARS);
            }
        }
    }

    /** What an HOUR of a TASK changes, but scars: of a thousand how likely one is, is answered. */
    private int toil(World w, int person, int hand, int kind) {
        int[] value = asked.value;
        int at = hand * KINDS + kind;
        askOfHand(w, hand, person);
        value[SKILL] = w.skill[at];
        value[KIND] = kind;
        value[HOUR] = w.hour;
        Law law = texts.laws[HANDS_LAW];
        int learnt = heldTo(law.amount(LEARN, asked), MOST_LEARNT);
        int worn = heldTo(law.amount(WEAR, asked), MOST_WORN);
        int paid = heldTo(law.amount(PAY, asked), MOST_PAID);
        int scar = heldTo(law.amount(SCAR, asked), THOUSAND);
        w.skill[at] = Math.min(w.skill[at] + learnt, MOST_SKILL);
        w.wear[hand] = Math.min(w.wear[hand] + worn, MOST_WEAR);
        w.coin[person] = Math.min(w.coin[person] + paid, MOST_COIN);
        return scar;
    }

    private void thinkAhead(int hours) {
        thought.copyFrom(now);
        for (int i = 0; i < hours; i++) {
            passHour(thought, false);
        }
    }

    public int back() {
        thought.copyFrom(now);
        for (int i = 0; i < AHEAD; i++) {
            if (thought.astray() == 0) {
                return thought.hour;
            }
            passHour(thought, false);
        }
        return thought.astray() == 0 ? thought.hour : NONE;
    }

    public int where(int hand, int n) {
        if (!now.hasHand(hand) || !within(n, 0, AHEAD)) {
            return NONE - 1;
        }
        thinkAhead(n);
        return thought.place[hand];
    }

    public int out(int n) {
        if (!within(n, 0, AHEAD)) {
            return NONE;
        }
        thinkAhead(n);
        return thought.astray();
    }

    public int fails(int what) {
        if (!within(what, 0, 1)) {
            return NONE;
        }
        thought.copyFrom(now);
        for (int i = 0; i < AHEAD; i++) {
            int hour = thought.hour;
            int failed = passHour(thought, false);
            if (failed != 0) {
                return what == 1 ? hour : leastOf(failed);
            }
        }
        return NONE;
    }

    private static int leastOf(int set) {
        for (int i = 0; i < LINES; i++) {
            if ((set >> i & 1) == 1) {
                return i;
            }
        }
        return NONE;
    }

    // ---- a task in thought ----

    private boolean canTry(int hand, int kind, int n) {
        return now.hasHand(hand) && now.place[hand] != NONE
            && within(kind, 0, KINDS - 1) && within(n, 0, HOURS_OF_TASK);
    }

    public int learns(int hand, int kind, int n) {
        if (!canTry(hand, kind, n)) {
            return NONE;
        }
        unscarred(hand, kind, n);
        return thought.skill[hand * KINDS + kind];
    }

    public int safe(int hand, int kind, int n) {
        return canTry(hand, kind, n) ? unscarred(hand, kind, n) : NONE;
    }

    /** SAFE of a HAND on a wrist; the HAND after those HOURS is left in thought. */
    private int unscarred(int hand, int kind, int n) {
        thought.copyFrom(now);
        int person = thought.place[hand];
        int millionths = MILLION;
        for (int i = 0; i < n; i++) {
            int scar = toil(thought, person, hand, kind);
            millionths = millionths * (THOUSAND - scar) / THOUSAND;
            thought.held[hand]++;
            thought.hour++;
        }
        return millionths;
    }

    public int premium(int kind, int n) {
        if (!within(kind, 0, KINDS - 1) || !within(n, 0, HOURS_OF_TASK)) {
            return NONE;
        }
        int sum = 0;
        for (int hand = 0; hand < 2 * now.people; hand++) {
            if (now.place[hand] != NONE) {
                sum += MILLION - unscarred(hand, kind, n);
            }
        }
        return sum;
    }

    // ---- deeds in thought ----

    /** Whose a DEED would be, by its word in the LAW, if the HAND were held some HOURS more. */
    private int judge(int person, int hand, int more) {
        int[] value = asked.value;
        int latest = now.latestLoan(hand);
        askOfHand(now, hand, person);
        value[HELD] += more;
        value[PRICE] = latest == NONE ? 0 : now.loanCell(latest, LOAN_PRICE);
        int verb = texts.laws[GUILT_LAW].firstVerb(asked);
        return verb == NONE ? OF_HEAD : verb;
    }

    public int judged(int person, int side, int n) {
        int hand = onWrist(person, side);
        if (hand == NONE || !within(n, 0, MOST_HELD)) {
            return NONE;
        }
        return judge(person, hand, n) - OF_HAND;
    }

    public int loophole(int person, int side) {
        int hand = onWrist(person, side);
        if (hand == NONE) {
            return NONE;
        }
        int guilty = judge(person, hand, 0);
        for (int n = 1; n <= MOST_HELD; n++) {
            if (judge(person, hand, n) != guilty) {
                return n;
            }
        }
        return NONE;
    }

    // ---- shared ----

    /** What every LAW asks alike of a HAND and of who borrows, has or does it. */
    private void askOfHand(World w, int hand, int person) {
        int[] value = asked.value;
        value[LEFT] = 1 - (hand & 1);
        value[BEST] = w.bestSkill(hand);
        value[WORN] = w.wear[hand];
        value[SCARS] = w.scars[hand];
        value[HELD] = w.held[hand];
        value[OWN] = hand >> 1 == person ? 1 : 0;
        value[CHILD] = w.child[person];
    }

    private int onWrist(int person, int side) {
        return now.hasPerson(person) && within(side, 0, 1) ? now.wrist[2 * person + side] : NONE;
    }

    private static boolean within(int v, int least, int most) {
        return v >= least && v <= most;
    }

    private static int heldTo(int v, int most) {
        return Math.max(0, Math.min(v, most));
    }

    /**
     * All that acts change. Of THE BOOK only the number of lines is here: as long as something can be
     * undone lines are only added behind, so that going back needs no more than the number.
     */
    private static final class World {
        int draws;
        int hour;
        int people;
        int loanCount;
        int bookLines;
        final int[] coin = new int[PEOPLE];
        final int[] child = new int[PEOPLE];
        final int[] task = new int[PEOPLE];
        final int[] guilt = new int[PEOPLE];
        final int[] wrist = new int[HANDS];
        final int[] place = new int[HANDS];
        final int[] skill = new int[HANDS * KINDS];
        final int[] wear = new int[HANDS];
        final int[] scars = new int[HANDS];
        final int[] marks = new int[HANDS];
        final int[] held = new int[HANDS];
        final int[] loans = new int[LOANS * LOAN_CELLS];

        void copyFrom(World other) {
            draws = other.draws;
            hour = other.hour;
            people = other.people;
            loanCount = other.loanCount;
            bookLines = other.bookLines;
            System.arraycopy(other.coin, 0, coin, 0, PEOPLE);
            System.arraycopy(other.child, 0, child, 0, PEOPLE);
            System.arraycopy(other.task, 0, task, 0, PEOPLE);
            System.arraycopy(other.guilt, 0, guilt, 0, PEOPLE);
            System.arraycopy(other.wrist, 0, wrist, 0, HANDS);
            System.arraycopy(other.place, 0, place, 0, HANDS);
            System.arraycopy(other.skill, 0, skill, 0, HANDS * KINDS);
            System.arraycopy(other.wear, 0, wear, 0, HANDS);
            System.arraycopy(other.scars, 0, scars, 0, HANDS);
            System.arraycopy(other.marks, 0, marks, 0, HANDS);
            System.arraycopy(other.held, 0, held, 0, HANDS);
            System.arraycopy(other.loans, 0, loans, 0, LOANS * LOAN_CELLS);
        }

        boolean hasPerson(int person) {
            return person >= 0 && person < people;
        }

        boolean hasHand(int hand) {
            return hand >= 0 && hand < 2 * people;
        }

        /** A PERSON more, who must have room; his rows were never written by another. */
        int born(int coins, int isChild) {
            int person = people;
            people++;
            coin[person] = coins;
            child[person] = isChild;
            task[person] = NONE;
            wrist[2 * person] = 2 * person;
            wrist[2 * person + 1] = 2 * person + 1;
            place[2 * person] = person;
            place[2 * person + 1] = person;
            return person;
        }

        boolean tellPerson(boolean coins, int person, int v) {
            if (v < 0 || v > (coins ? MOST_COIN : 1)) {
                return false;
            }
            if (coins) {
                coin[person] = v;
            } else {
                child[person] = v;
            }
            return true;
        }

        /** What: 0 to 3 a SKILL, 4 WEAR, 5 SCARS. */
        boolean tellHand(int what, int hand, int v) {
            if (what < 0 || what > KINDS + 1 || v < 0 || v > (what <= KINDS ? MOST_SKILL : MOST_SCARS)) {
                return false;
            }
            if (what < KINDS) {
                skill[hand * KINDS + what] = v;
            } else if (what == KINDS) {
                wear[hand] = v;
            } else {
                scars[hand] = v;
            }
            return true;
        }

        boolean isHome(int hand) {
            return place[hand] == hand >> 1;
        }

        /** HANDS that are not on the wrist of who was born with them, as a set. */
        int astray() {
            int set = 0;
            for (int hand = 0; hand < 2 * people; hand++) {
                if (!isHome(hand)) {
                    set |= 1 << hand;
                }
            }
            return set;
        }

        int bestSkill(int hand) {
            int best = 0;
            for (int kind = 0; kind < KINDS; kind++) {
                int one = skill[hand * KINDS + kind];
                best = one > best ? one : best;
            }
            return best;
        }

        int loanCell(int i, int cell) {
            return loans[i * LOAN_CELLS + cell];
        }

        int latestLoan(int hand) {
            for (int i = loanCount - 1; i >= 0; i--) {
                if (loanCell(i, LOAN_HAND) == hand) {
                    return i;
                }
            }
            return NONE;
        }

        int loansOf(int hand) {
            int count = 0;
            for (int i = 0; i < loanCount; i++) {
                if (loanCell(i, LOAN_HAND) == hand) {
                    count++;
                }
            }
            return count;
        }

        void toOffice(int hand) {
            if (place[hand] != NONE) {
                wrist[2 * place[hand] + (hand & 1)] = NONE;
            }
            place[hand] = NONE;
            held[hand] = 0;
        }

        /** From the OFFICE to an empty wrist. */
        void toWrist(int hand, int person) {
            wrist[2 * person + (hand & 1)] = hand;
            place[hand] = person;
            held[hand] = 0;
        }

        /** A LOAN that can be; answers its END. */
        int makeLoan(int hand, int to, int hours, int price) {
            int from = place[hand];
            int displaced = wrist[2 * to + (hand & 1)];
            coin[to] -= hours * price;
            coin[from] = Math.min(coin[from] + hours * price, MOST_COIN);
            if (displaced != NONE) {
                toOffice(displaced);
            }
            toOffice(hand);
            toWrist(hand, to);
            int row = loanCount * LOAN_CELLS;
            loans[row + LOAN_HAND] = hand;
            loans[row + LOAN_FROM] = from;
            loans[row + LOAN_TO] = to;
            loans[row + LOAN_END] = hour + hours;
            loans[row + LOAN_PRICE] = price;
            loanCount++;
            return hour + hours;
        }

        int drawOfThousand() {
            draws = draws * 1664525 + 1013904223;
            return (draws >>> 8) % THOUSAND;
        }

        /** What an HOUR does to HANDS on wrists, and the HOUR itself. */
        void growOld() {
            for (int hand = 0; hand < 2 * people; hand++) {
                if (place[hand] != NONE) {
                    held[hand]++;
                    marks[hand] |= 1 << place[hand];
                }
            }
            hour++;
        }

        void endLoans() {
            for (int i = loanCount - 1; i >= 0; i--) {
                if (loanCell(i, LOAN_END) <= hour) {
                    giveBack(loanCell(i, LOAN_HAND), loanCell(i, LOAN_FROM), loanCell(i, LOAN_TO));
                    int behind = (i + 1) * LOAN_CELLS;
                    System.arraycopy(loans, behind, loans, behind - LOAN_CELLS, loanCount * LOAN_CELLS - behind);
                    loanCount--;
                }
            }
        }

        void giveBack(int hand, int from, int to) {
            int side = hand & 1;
            int own = 2 * to + side;
            toOffice(hand);
            if (wrist[2 * from + side] == NONE) {
                toWrist(hand, from);
            }
            if (wrist[own] == NONE && place[own] == NONE) {
                toWrist(own, to);
            }
        }
    }

    /** What a LAW asks, by the word's number, and the room in which it is reckoned. */
    private static final class Asked {
        final int[] value = new int[ASKABLE];
        final int[] stack = new int[STACK];
    }

    /** A LAW: line i has its word, E in code from start to middle, B from there to stop. */
    private static final class Law {
        int lines;
        int size;
        final int[] verb = new int[LINES];
        final int[] start = new int[LINES];
        final int[] middle = new int[LINES];
        final int[] stop = new int[LINES];
        final int[] code = new int[TAPE];

        void copyFrom(Law other) {
            lines = other.lines;
            size = other.size;
            System.arraycopy(other.verb, 0, verb, 0, LINES);
            System.arraycopy(other.start, 0, start, 0, LINES);
            System.arraycopy(other.middle, 0, middle, 0, LINES);
            System.arraycopy(other.stop, 0, stop, 0, LINES);
            System.arraycopy(other.code, 0, code, 0, TAPE);
        }

        void put(int c) {
            if (size < TAPE) {
                code[size] = c;
                size++;
            }
        }

        /** The word of the first line that applies; NONE if none does. */
        int firstVerb(Asked asked) {
            for (int i = 0; i < lines; i++) {
                if (middle[i] == stop[i] || reckon(middle[i], stop[i], asked) != 0) {
                    return verb[i];
                }
            }
            return NONE;
        }

        /** E of the first line with that word that applies; 0 if none does. */
        int amount(int word, Asked asked) {
            for (int i = 0; i < lines; i++) {
                if (verb[i] == word && (middle[i] == stop[i] || reckon(middle[i], stop[i], asked) != 0)) {
                    return reckon(start[i], middle[i], asked);
                }
            }
            return 0;
        }

        /** Code stands with each operator behind what it joins, so that no call goes deeper than this one. */
        private int reckon(int from, int to, Asked asked) {
            int[] stack = asked.stack;
            int top = 0;
            for (int i = from; i < to; i++) {
                int c = code[i];
                if (c < OPERATOR) {
                    if (top < STACK) {
                        stack[top] = c < ASK ? c : asked.value[c - ASK];
                        top++;
                    }
                } else if (c == OPERATOR + NOT) {
                    if (top >= 1) {
                        stack[top - 1] = 1 - stack[top - 1];
                    }
                } else if (top >= 2) {
                    top--;
                    int a = stack[top - 1];
                    int b = stack[top];
                    int joined;
                    switch (c - OPERATOR) {
                        case '+': joined = a + b; break;
                        case '-': joined = a - b; break;
                        case '*': joined = a * b; break;
                        case '/': joined = b == 0 ? 0 : a / b; break;
                        case '<': joined = a < b ? 1 : 0; break;
                        case '=': joined = a == b ? 1 : 0; break;
                        case '>': joined = a > b ? 1 : 0; break;
                        case AND: joined = a & b; break;
                        default: joined = a | b; break;
                    }
                    stack[top - 1] = joined;
                }
            }
            return stack[0];
        }
    }

    /** BOOKINGS or WORKS. */
    private static final class Table {
        int lines;
        final int[] cells = new int[LINES * TABLE_CELLS];

        int cell(int line, int cell) {
            return cells[line * TABLE_CELLS + cell];
        }

        void copyFrom(Table other) {
            lines = other.lines;
            System.arraycopy(other.cells, 0, cells, 0, LINES * TABLE_CELLS);
        }
    }

    private static final class Texts {
        final Law[] laws = new Law[LAWS];
        final Table bookings = new Table();
        final Table works = new Table();

        Texts() {
            for (int k = 0; k < LAWS; k++) {
                laws[k] = new Law();
            }
        }

        void copyFrom(Texts other) {
            for (int k = 0; k < LAWS; k++) {
                laws[k].copyFrom(other.laws[k]);
            }
            bookings.copyFrom(other.bookings);
            works.copyFrom(other.works);
        }
    }

    /**
     * Reads a TEXT into a draft, from left to right: the first token that is refused is the FAULT, and
     * nothing behind it is looked at.
     */
    private static final class Reader {
        final int[] kind = new int[TAPE + 1];
        final int[] value = new int[TAPE + 1];
        final int[] place = new int[TAPE + 1];
        int tokens;
        int next;
        int fault;
        int faultPlace = NONE;
        int asks;
        final Law law = new Law();
        final Table table = new Table();

        void begin(char[] tape, int length) {
            tokens = 0;
            next = 0;
            fault = 0;
            faultPlace = NONE;
            int i = 0;
            for (int n = 0; n < TAPE && i < length; n++) {
                if (tape[i] == 32 || tape[i] == 10) {
                    i++;
                } else {
                    i = cutToken(tape, i, length);
                }
            }
            addToken(THE_END, 0, length);
        }

        private int cutToken(char[] tape, int from, int length) {
            int to = from + 1;
            if (isLetter(tape[from])) {
                while (to < length && isLetter(tape[to])) {
                    to++;
                }
                addToken(wordNumber(tape, from, to), 0, from);
            } else if (isDigit(tape[from])) {
                int number = tape[from] - '0';
                while (to < length && isDigit(tape[to])) {
                    number = number * 10 + tape[to] - '0';
                    to++;
                }
                addToken(to - from <= MOST_DIGITS ? NUMBER : NO_TOKEN, number, from);
            } else {
                addToken(isSign(tape[from]) ? tape[from] : NO_TOKEN, 0, from);
            }
            return to;
        }

        private void addToken(int what, int number, int from) {
            if (tokens <= TAPE) {
                kind[tokens] = what;
                value[tokens] = number;
                place[tokens] = from;
                tokens++;
            }
        }

        private static boolean isLetter(char c) {
            return c >= 'a' && c <= 'z' || c >= 'A' && c <= 'Z';
        }

        private static boolean isDigit(char c) {
            return c >= '0' && c <= '9';
        }

        private static boolean isSign(char c) {
            return c >= '(' && c <= '+' || c == '-' || c == '/' || c >= ';' && c <= '>';
        }

        private static int wordNumber(char[] tape, int from, int to) {
            int number = 0;
            int begin = 0;
            for (int i = 0; i <= WORDS.length(); i++) {
                if (i == WORDS.length() || WORDS.charAt(i) == ' ') {
                    if (i - begin == to - from && isWordAt(tape, from, begin, i)) {
                        return number;
                    }
                    number++;
                    begin = i + 1;
                }
            }
            return NO_TOKEN;
        }

        private static boolean isWordAt(char[] tape, int from, int begin, int stop) {
            for (int i = begin; i < stop; i++) {
                if (WORDS.charAt(i) != tape[from + i - begin]) {
                    return false;
                }
            }
            return true;
        }

        private int seen() {
            return next < tokens ? kind[next] : THE_END;
        }

        private boolean refuse(int why) {
            fault = why;
            faultPlace = next < tokens ? place[next] : NONE;
            return false;
        }

        private boolean skip(int what) {
            if (seen() != what) {
                return refuse(CANNOT_STAND);
            }
            next++;
            return true;
        }

        boolean readLaw(int k) {
            law.lines = 0;
            law.size = 0;
            asks = ASKS[k];
            for (int n = 0; n <= TAPE && seen() != THE_END; n++) {
                if (!lawLine(k)) {
                    return false;
                }
            }
            return true;
        }

        private boolean lawLine(int k) {
            int verb = seen();
            int line = law.lines;
            if (verb < FIRST_VERB[k] || verb > LAST_VERB[k]) {
                return refuse(CANNOT_STAND);
            }
            if (line >= LINES) {
                return refuse(TOO_MANY);
            }
            next++;
            law.verb[line] = verb;
            law.start[line] = law.size;
            if (k == HANDS_LAW && !sum()) {
                return false;
            }
            law.middle[line] = law.size;
            if (seen() == WHEN) {
                next++;
                if (!anyOf(0)) {
                    return false;
                }
            }
            law.stop[line] = law.size;
            law.lines++;
            return skip(';');
        }

        /** B: whether what stands here is one, when so many ( and not are open. */
        private boolean anyOf(int open) {
            for (int ors = 0; ors <= TAPE; ors++) {
                for (int ands = 0; ands <= TAPE; ands++) {
                    if (!single(open)) {
                        return false;
                    }
                    if (ands > 0) {
                        law.put(OPERATOR + AND);
                    }
                    if (seen() != AND) {
                        break;
                    }
                    next++;
                }
                if (ors > 0) {
                    law.put(OPERATOR + OR);
                }
                if (seen() != OR) {
                    break;
                }
                next++;
            }
            return true;
        }

        private boolean single(int open) {
            int first = seen();
            if (first == NOT || first == '(') {
                if (open >= OPEN_AT_MOST) {
                    return refuse(TOO_MANY);
                }
                next++;
                if (first == '(') {
                    return anyOf(open + 1) && skip(')');
                }
                if (!single(open + 1)) {
                    return false;
                }
                law.put(OPERATOR + NOT);
                return true;
            }
            if (!sum()) {
                return false;
            }
            int sign = seen();
            if (sign != '<' && sign != '=' && sign != '>') {
                return refuse(CANNOT_STAND);
            }
            next++;
            if (!sum()) {
                return false;
            }
            law.put(OPERATOR + sign);
            return true;
        }

        /** E with the T in it: an operator is put behind what it joins. */
        private boolean sum() {
            int joint = NONE;
            for (int n = 0; n <= TAPE; n++) {
                if (!unit(false)) {
                    return false;
                }
                for (int m = 0; m <= TAPE && (seen() == '*' || seen() == '/'); m++) {
                    int sign = seen();
                    next++;
                    if (!unit(sign == '/')) {
                        return false;
                    }
                    law.put(OPERATOR + sign);
                }
                if (joint != NONE) {
                    law.put(OPERATOR + joint);
                }
                joint = seen();
                if (joint != '+' && joint != '-') {
                    return true;
                }
                next++;
            }
            return true;
        }

        private boolean unit(boolean parts) {
            int what = seen();
            if (what == NUMBER) {
                if (parts && value[next] == 0) {
                    return refuse(OUT_OF_BOUNDS);
                }
                law.put(value[next]);
            } else if (!parts && what < ASKABLE && (asks >> what & 1) == 1) {
                law.put(ASK + what);
            } else {
                return refuse(CANNOT_STAND);
            }
            next++;
            return true;
        }

        boolean readTable(boolean booked, int people) {
            table.lines = 0;
            for (int n = 0; n <= TAPE && seen() != THE_END; n++) {
                if (seen() != (booked ? LEND : WORK)) {
                    return refuse(CANNOT_STAND);
                }
                if (table.lines >= (booked ? LINES : WORKS)) {
                    return refuse(TOO_MANY);
                }
                next++;
                int row = table.lines * TABLE_CELLS;
                boolean read = booked ? bookingRow(row, people) : workRow(row);
                if (!read || !skip(';')) {
                    return false;
                }
                table.lines++;
            }
            return true;
        }

        private boolean bookingRow(int row, int people) {
            table.cells[row + BOOKED_PRICE] = 0;
            boolean read = cell(row + BOOKED_HAND, 0, 2 * people - 1)
                && skip(TO) && cell(row + BOOKED_TO, 0, people - 1)
                && skip(AT) && cell(row + BOOKED_AT, 0, LAST_HOUR)
                && skip(FOR) && cell(row + BOOKED_HOURS, 1, MOST_HOURS);
            if (!read || seen() != PRICE) {
                return read;
            }
            next++;
            return cell(row + BOOKED_PRICE, 0, MOST_PRICE);
        }

        private boolean workRow(int row) {
            boolean read = cell(row + WORK_KIND, 0, KINDS - 1)
                && skip(NEEDS) && cell(row + WORK_NEEDS, 0, MOST_NEEDS)
                && skip(PAYS) && cell(row + WORK_PAYS, 0, MOST_PAYS);
            if (!read) {
                return false;
            }
            boolean both = seen() == OF_BOTH;
            table.cells[row + WORK_BOTH] = both ? 1 : 0;
            if (both) {
                next++;
            }
            return true;
        }

        private boolean cell(int at, int least, int most) {
            if (seen() != NUMBER) {
                return refuse(CANNOT_STAND);
            }
            if (value[next] < least || value[next] > most) {
                return refuse(OUT_OF_BOUNDS);
            }
            table.cells[at] = value[next];
            next++;
            return true;
        }
    }
}
