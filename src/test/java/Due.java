/** Compares answers with those that are due, prints what differs, and ends with 1 if any did. */
final class Due {
    static final int LOW = -1000001;
    static final int BEYOND = LOW;
    static final int FULL = LOW - 1;
    static final int KIND = LOW - 2;
    static final int NONE = LOW - 3;
    static final int STATE = LOW - 4;
    static final int MISSING = LOW - 5;
    static final int SIZE = LOW - 6;

    private static final int MOST_SHOWN = 40;

    private static int asked;
    private static int wrong;
    private static String subject = "";

    private Due() {
    }

    static void due(String call, long got, long want) {
        asked++;
        if (got != want) {
            wrong++;
            if (wrong <= MOST_SHOWN) {
                System.out.println(subject + call + " answered " + got + ", due is " + want);
            }
        }
    }

    /** What the answers from now on are about; it is printed ahead of those that differ. */
    static void about(String words) {
        subject = words + ": ";
    }

    /** Feeds a whole text, byte by byte. */
    static void feed(CurtainHouse x, String text) {
        for (int i = 0; i < text.length(); i++) {
            x.feed(text.charAt(i), 1);
        }
    }

    /** What text() answers on a text. */
    static int read(CurtainHouse x, String text) {
        feed(x, text);
        return x.text();
    }

    /** A new house with what a text tells. */
    static CurtainHouse house(String text) {
        CurtainHouse x = new CurtainHouse();
        int answer = read(x, text);
        if (answer < 1) {
            due("text() for " + text, answer, 1);
        }
        return x;
    }

    /** A sheet that tells these numbers. */
    static void tell(CurtainHouse x, int s, int bits, int... numbers) {
        due("sheet", x.sheet(s, bits, numbers.length), numbers.length);
        for (int i = 0; i < numbers.length; i++) {
            due("write", x.write(s, i, numbers[i]), 1);
        }
    }

    static void end() {
        System.out.println(asked + " answers, " + wrong + " not as due");
        if (wrong != 0 || asked == 0) {
            System.exit(1);
        }
    }
}
