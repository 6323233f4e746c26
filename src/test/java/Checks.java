/** What the tests share: each answer that is due is counted, and a wrong one printed with what it is about. */
abstract class Checks {
    static final int NONE = -1;
    /** NONE - 1, where NONE is an answer of its own. */
    static final int NO = -2;
    static final int MIN = Integer.MIN_VALUE;
    static final int MAX = Integer.MAX_VALUE;
    static final int FOUR_BLANKS = 0x20202020;

    private static String about = "";
    private static int count;
    private static int wrong;

    static void about(String what) {
        about = what;
    }

    static void due(String call, int got, int want) {
        count++;
        if (got != want) {
            wrong++;
            System.out.println(about + ": " + call + " answered " + got + ", due is " + want);
        }
    }

    static void due(String call, boolean got, boolean want) {
        due(call, got ? 1 : 0, want ? 1 : 0);
    }

    /** Ends the program, with 1 if an answer was wrong. */
    static void close() {
        System.out.println(count + " answers, " + wrong + " wrong");
        if (wrong > 0) {
            System.exit(1);
        }
    }

    /** An object with so many PEOPLE of that COIN, none a CHILD. */
    static LentHands people(int n, int coin) {
        LentHands x = new LentHands();
        for (int i = 0; i < n; i++) {
            x.person(coin, 0);
        }
        return x;
    }

    /** That text comes behind the TAPE. */
    static void onTape(LentHands x, String s) {
        int full = 0;
        for (int i = 0; i < s.length(); i += 20) {
            int[] five = new int[5];
            for (int j = 0; j < 20; j++) {
                five[j / 4] = five[j / 4] << 8 | (i + j < s.length() ? s.charAt(i + j) : ' ');
            }
            full = x.feed(five[0], five[1], five[2], five[3], five[4]);
        }
        if (s.length() % 20 > 0) {
            x.end(full - 20 + s.length() % 20);
        }
    }

    static int tell(LentHands x, int k, String s) {
        onTape(x, s);
        return x.text(k);
    }

    static void lines(LentHands x, int k, String s, int want) {
        due("text(" + k + ") of '" + s + "'", tell(x, k, s), want);
        due("fault(0) of '" + s + "'", x.fault(0), 0);
        due("fault(1) of '" + s + "'", x.fault(1), NONE);
    }

    static void faulty(LentHands x, int k, String s, int number, int place) {
        due("text(" + k + ") of '" + s + "'", tell(x, k, s), NONE);
        due("fault(0) of '" + s + "'", x.fault(0), number);
        due("fault(1) of '" + s + "'", x.fault(1), place);
    }

    static String times(String s, int n) {
        return s.repeat(n);
    }
}
