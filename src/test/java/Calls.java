import java.nio.charset.StandardCharsets;

/** What the tests share: texts fed to the tape, and answers compared with those that are due. */
final class Calls {
    private final String test;
    private String sentence = "";
    private int asked;
    private int wrong;

    Calls(String test) {
        this.test = test;
    }

    /** The words of the document that the next calls hold the program to. */
    void says(String words) {
        sentence = words;
    }

    void due(String call, long got, long want) {
        asked++;
        if (got != want) {
            wrong++;
            String behind = sentence.isEmpty() ? "" : " (" + sentence + ")";
            System.out.println(call + " answered " + got + ", due is " + want + behind);
        }
    }

    void due(String call, boolean got, boolean want) {
        due(call, got ? 1L : 0L, want ? 1L : 0L);
    }

    void dueRow(String call, int[] got, int... want) {
        due(call + ": how many", got.length, want.length);
        for (int k = 0; k < Math.min(got.length, want.length); k++) {
            due(call + " at " + k, got[k], want[k]);
        }
    }

    /** Prints the sum, and ends the program with 1 if an answer was wrong. */
    void end() {
        System.out.println(test + ": " + asked + " answers, " + wrong + " not as due");
        if (wrong != 0 || asked == 0) {
            System.exit(1);
        }
    }

    /** The five ints of the k-th twenty bytes of a text, a's behind its end. */
    static int[] words(byte[] bytes, int k) {
        int[] words = new int[5];
        for (int i = 0; i < 20; i++) {
            int at = 20 * k + i;
            int b = at < bytes.length ? bytes[at] & 255 : 'a';
            words[i / 4] = words[i / 4] << 8 | b;
        }
        return words;
    }

    static int feeds(int bytes) {
        return Math.max(1, (bytes + 19) / 20);
    }

    static byte[] bytes(String text) {
        return text.getBytes(StandardCharsets.ISO_8859_1);
    }

    static void feed(OneCoin x, String text) {
        byte[] bytes = bytes(text);
        for (int k = 0; k < feeds(bytes.length); k++) {
            int[] w = words(bytes, k);
            x.feed(w[0], w[1], w[2], w[3], w[4]);
        }
    }

    static int law(OneCoin x, String text) {
        feed(x, text);
        return x.law(text.length());
    }

    static int debts(OneCoin x, String text) {
        feed(x, text);
        return x.debts(text.length());
    }

    static int route(OneCoin x, String text, int what) {
        feed(x, text);
        return x.route(text.length(), what);
    }

    static int walk(OneCoin x, String text) {
        feed(x, text);
        return x.walk(text.length());
    }

    /** A new object with so many of a, b, c .. told, all in a row on the ground: a at 0, b at 1 .. */
    static OneCoin people(int many) {
        OneCoin x = new OneCoin();
        for (int p = 0; p < many; p++) {
            x.person(p, p, 0);
        }
        return x;
    }

    static OneCoin owing(int many, String debts) {
        OneCoin x = people(many);
        if (debts(x, debts) < 0) {
            throw new IllegalStateException("no DEBTS: " + debts);
        }
        return x;
    }

    /** So many told ones, the first one with THE COIN, at THE HOUR 0 of DAY 0. */
    static OneCoin holding(int many, String debts) {
        OneCoin x = owing(many, debts);
        x.coin(0);
        return x;
    }

    /** THE SEED whose first DRAW is this digit. */
    static int seedFor(int draw) {
        for (int seed = 0; seed < 65536; seed++) {
            if ((25173 * seed + 13849 & 65535) % 10 == draw) {
                return seed;
            }
        }
        throw new IllegalStateException("no SEED draws " + draw);
    }

    static int[] tourRow(OneCoin x) {
        int[] row = new int[Math.max(0, x.tour(101))];
        for (int k = 0; k < row.length; k++) {
            row[k] = x.tour(k);
        }
        return row;
    }

    static int[] mostRow(OneCoin x) {
        int[] row = new int[Math.max(0, x.most(100))];
        for (int k = 0; k < row.length; k++) {
            row[k] = x.most(k);
        }
        return row;
    }

    static int[] evenRow(OneCoin x) {
        int[] row = new int[Math.max(0, x.even(100))];
        for (int k = 0; k < row.length; k++) {
            row[k] = x.even(k);
        }
        return row;
    }

    static int[] chalkRow(OneCoin x) {
        int[] row = new int[x.count(8)];
        for (int k = 0; k < row.length; k++) {
            row[k] = x.chalk(k);
        }
        return row;
    }
}
