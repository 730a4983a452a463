/** Promises 28 to 30: feed, wipe, text. */
public final class TextsTest {
    public static void main(String[] args) {
        feed();
        wipe();
        items();
        curtainItems();
        spaces();
        numbers();
        faults();
        ninthCurtain();
        nothingChangesByFault();
        longest();
        Due.end();
    }

    private static void feed() {
        CurtainHouse x = new CurtainHouse();
        Due.due("feed(0, 0)", x.feed(0, 0), Due.BEYOND);
        Due.due("feed(0, 5)", x.feed(0, 5), Due.BEYOND);
        Due.due("feed(0, -1)", x.feed(0, -1), Due.BEYOND);
        // "fire", "; o", "ut", each the lowest bytes of a number with more.
        Due.due("feed fire", x.feed(0x66697265, 4), 4);
        Due.due("feed ; o", x.feed(0x773B206F, 3), 7);
        Due.due("feed u", x.feed(0xFFFFFF75, 1), 8);
        Due.due("feed t", x.feed(0x12345674, 1), 9);
        Due.due("count(5)", x.count(5), 9);
        Due.due("text()", x.text(), 2);
        Due.due("count(5)", x.count(5), 0);
        for (int k = 1; k <= 29; k++) {
            Due.due("feed, 4 each", x.feed(0x20202020, 4), 4 * k);
        }
        Due.due("feed to 118", x.feed(0, 2), 118);
        Due.due("feed beyond 120", x.feed(0, 3), Due.FULL);
        Due.due("feed(0, 5), BEYOND first", x.feed(0, 5), Due.BEYOND);
        Due.due("count(5)", x.count(5), 118);
        Due.due("feed to 120", x.feed(0, 2), 120);
        Due.due("feed beyond 120", x.feed(0, 1), Due.FULL);
    }

    private static void wipe() {
        CurtainHouse x = new CurtainHouse();
        Due.due("wipe()", x.wipe(), 0);
        Due.feed(x, "fire;");
        Due.due("wipe()", x.wipe(), 5);
        Due.due("wipe()", x.wipe(), 0);
        Due.due("text()", Due.read(x, "out"), 1);
    }

    private static void items() {
        CurtainHouse x = new CurtainHouse();
        Due.due("fire", Due.read(x, "fire"), 1);
        Due.due("now(7)", x.now(7), 1);
        Due.due("out", Due.read(x, "out"), 1);
        Due.due("now(7)", x.now(7), 0);
        Due.due("out;fire", Due.read(x, "out;fire"), 2);
        Due.due("now(7)", x.now(7), 1);
        Due.due("scenes", Due.read(x, "scene 0 11;scene 5 0;scene 0 7"), 3);
        Due.due("listed(0)", x.listed(0), 7);
        Due.due("listed(5)", x.listed(5), 0);
        Due.due("status(-1)", x.status(-1), 0);
    }

    private static void curtainItems() {
        CurtainHouse x = new CurtainHouse();
        Due.due("five", Due.read(x, "curtain;velvet mood 0;gauze likes 4095;drop high 0;cloud tied"), 5);
        Due.due("three", Due.read(x, "iron mood 99 likes 0 high 20 tied;fringe mood 1 high 2;gauze likes 3 tied"), 3);
        int[][] rows = {
            {0, 60, 0, 20, 0, 0}, {1, 0, 0, 20, 0, 0}, {2, 60, 4095, 20, 0, 0}, {3, 60, 0, 0, 0, 0},
            {4, 60, 0, 20, 1, 0}, {5, 99, 0, 20, 1, 0}, {6, 1, 0, 2, 0, 0}, {2, 60, 3, 20, 1, 0}};
        for (int c = 0; c < 8; c++) {
            for (int what = 0; what < 6; what++) {
                Due.due("of(" + c + ", " + what + ")", x.of(c, what), rows[c][what]);
            }
        }
    }

    private static void spaces() {
        Due.due("around", Due.read(new CurtainHouse(), "  fire  ;  out  "), 2);
        Due.due("none needed", Due.read(new CurtainHouse(), "cloud mood1likes2high3tied;scene0 1;fire"), 3);
        Due.due("between digits they tell NUMBERS apart", Due.read(new CurtainHouse(), "scene 01"), -9);
        Due.due("between letters they tell WORDS apart", Due.read(new CurtainHouse(), "cloudmood 1"), -1);
        Due.due("a WORD behind a NUMBER", Due.read(new CurtainHouse(), "scene0 1fire"), -9);
    }

    private static void numbers() {
        CurtainHouse x = new CurtainHouse();
        Due.due("zeros ahead", Due.read(x, "drop mood 000000000000007 likes 00004095"), 1);
        Due.due("of(0, 1)", x.of(0, 1), 7);
        Due.due("of(0, 2)", x.of(0, 2), 4095);
        String[] wrong = {"4096", "9999", "10000", "40950", "4294967296", "18446744073709551616",
            "99999999999999999999999999999999999999999999999999"};
        for (String number : wrong) {
            Due.due("likes " + number, Due.read(x, "drop likes " + number), -12);
        }
        Due.due("mood 100", Due.read(x, "drop mood 100"), -11);
        Due.due("high 21", Due.read(x, "drop high 21"), -11);
        Due.due("scene 6 0", Due.read(x, "scene 6 0"), -7);
        Due.due("scene 0 12", Due.read(x, "scene 0 12"), -9);
        Due.due("mood -1", Due.read(x, "drop mood -1"), -11);
        Due.due("count(1)", x.count(1), 1);
    }

    private static void fault(String text, int place) {
        CurtainHouse x = new CurtainHouse();
        Due.due("text() for '" + text + "'", Due.read(x, text), -1 - place);
        Due.due("count(5)", x.count(5), 0);
        Due.due("status(-1)", x.status(-1), 0);
    }

    private static void faults() {
        fault("", 0);
        fault("   ", 3);
        fault(";", 0);
        fault("7", 0);
        fault("  actor", 2);
        fault("fire;", 5);
        fault("fire; ", 6);
        fault("fire;;out", 5);
        fault("fire fire", 5);
        fault("fire 1", 5);
        fault("fires", 0);
        fault("fir", 0);
        fault("dire", 0);
        fault("fird", 0);
        fault("Fire", 0);
        fault("fire.", 4);
        fault("fire\tout", 4);
        fault("fire\n", 4);
        fault("fire" + (char) 0, 4);
        fault("fire;" + (char) 233, 5);
        fault("drop mood", 9);
        fault("drop mood ", 10);
        fault("drop mood likes", 10);
        fault("drop mood;", 9);
        fault("drop mood 1 2", 12);
        fault("drop likes 1 mood 1", 13);
        fault("drop high 1 likes 1", 12);
        fault("drop tied high 1", 10);
        fault("drop tied tied", 10);
        fault("drop mood 1 mood 1", 12);
        fault("drop scene 1 1", 5);
        fault("drop drop", 5);
        fault("scene", 5);
        fault("scene 1", 7);
        fault("scene 1 ", 8);
        fault("scene one", 6);
        fault("scene 1;2", 7);
        fault("scene 1 2 3", 10);
        fault("mood 1", 0);
        fault("tied", 0);
        fault("fire;out;velvet mood 5#", 22);
    }

    private static void ninthCurtain() {
        CurtainHouse x = new CurtainHouse();
        Due.due("nine", Due.read(x, "iron;iron;iron;iron;iron;iron;iron;iron; iron mood 100"), -42);
        Due.due("count(1)", x.count(1), 0);
        for (int c = 0; c < 7; c++) {
            x.curtain(0, 0);
        }
        Due.due("two more", Due.read(x, "fire;iron;scene 0 1;velvet"), -21);
        Due.due("count(1)", x.count(1), 7);
        Due.due("now(7)", x.now(7), 0);
        Due.due("one more", Due.read(x, "fire;iron;scene 0 1"), 3);
        Due.due("count(1)", x.count(1), 8);
        Due.due("none more", Due.read(x, "out;drop"), -5);
        Due.due("no WORD of a CURTAIN", Due.read(x, "out;scene 0 2"), 2);
        Due.due("no finding", x.status(-1), 0);
    }

    private static void nothingChangesByFault() {
        CurtainHouse x = Due.house("velvet mood 7");
        Due.due("a fault at the end", Due.read(x, "fire;scene 0 9;drop;gauze mood 3;x"), -34);
        Due.due("now(7)", x.now(7), 0);
        Due.due("listed(0)", x.listed(0), 0);
        Due.due("count(1)", x.count(1), 1);
        Due.due("of(0, 1)", x.of(0, 1), 7);
        x.image();
        Due.due("the image is not touched", Due.read(x, "fire;drop"), 2);
        x.undo();
        Due.due("count(1)", x.count(1), 1);
        Due.due("now(7)", x.now(7), 0);
    }

    private static void longest() {
        StringBuilder text = new StringBuilder("out");
        for (int k = 0; k < 29; k++) {
            text.append(";out");
        }
        Due.due("30 items", Due.read(new CurtainHouse(), text.toString()), 30);
        Due.due("120 bytes", Due.read(new CurtainHouse(), text + " "), 30);
        Due.due("121 bytes, the last one refused", Due.read(new CurtainHouse(), text + " x"), 30);
    }
}
