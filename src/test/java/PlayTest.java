/** Promises 17 to 22: sceneFor, kindFor, moodFor, handsFor, tie, please. */
public final class PlayTest {
    private static final String[] HOUSES = {
        "curtain mood 33 likes 9;velvet mood 41 likes 2;gauze mood 20 high 5;drop mood 21 likes 16",
        "fringe mood 39 likes 64 high 2;curtain mood 10 tied;cloud mood 45 likes 7 high 12;scene 0 6",
        "drop likes 5;cloud likes 3072 high 3;iron mood 0;velvet mood 3 high 1",
        "fire;fringe;gauze likes 2047;iron high 4",
        "curtain;curtain mood 31 likes 33 high 1",
    };

    public static void main(String[] args) {
        for (String text : HOUSES) {
            CurtainHouse x = Due.house(text);
            askAll(x, text);
            x.go(7);
            askAll(x, text + ", 7 BEATS on");
        }
        sceneFor();
        kindFor();
        moodFor();
        handsFor();
        tie();
        please();
        Due.end();
    }

    /** Compares with what trying everything out, by calls that change, comes to. */
    private static void askAll(CurtainHouse x, String house) {
        for (int n = 0; n <= 60; n += n < 6 ? 1 : 9) {
            for (int i = 0; i < 6; i++) {
                Due.due(house + ": sceneFor(" + i + ", " + n + ")", x.sceneFor(i, n), trySceneFor(x, i, n));
            }
            for (int c = 0; c < x.count(1); c++) {
                String of = "(" + c + ", " + n + ")";
                Due.due(house + ": kindFor" + of, x.kindFor(c, n), tryKindFor(x, c, n));
                Due.due(house + ": moodFor" + of, x.moodFor(c, n), tryMoodFor(x, c, n));
                Due.due(house + ": handsFor" + of, x.handsFor(c, n), tryHandsFor(x, c, n));
            }
            if (n <= 20) {
                Due.due(house + ": tie(" + n + ")", x.tie(n), tryTie(x, n));
            }
        }
    }

    private static void go(CurtainHouse x, int n) {
        if (n > 0) {
            x.go(n);
        }
    }

    private static int trySceneFor(CurtainHouse x, int i, int n) {
        x.image();
        int best = -1;
        int least = Integer.MAX_VALUE;
        for (int scene = 0; scene < 12; scene++) {
            x.scene(i, scene);
            go(x, n);
            if (x.now(1) < least) {
                least = x.now(1);
                best = scene;
            }
            x.undo();
        }
        return best;
    }

    private static int tryKindFor(CurtainHouse x, int curtain, int n) {
        x.image();
        int best = -1;
        int greatest = -1;
        for (int kind = 0; kind < 7; kind++) {
            x.change(curtain, 0, kind);
            go(x, n);
            if (x.of(curtain, 1) > greatest) {
                greatest = x.of(curtain, 1);
                best = kind;
            }
            x.undo();
        }
        return best;
    }

    private static int tryMoodFor(CurtainHouse x, int curtain, int n) {
        x.image();
        int downs = x.of(curtain, 5);
        for (int mood = 0; mood <= 99; mood++) {
            x.change(curtain, 1, mood);
            go(x, n);
            boolean does = x.of(curtain, 5) == downs;
            x.undo();
            if (does) {
                return mood;
            }
        }
        return Due.NONE;
    }

    private static int tryHandsFor(CurtainHouse x, int curtain, int n) {
        if (x.of(curtain, 4) == 1) {
            return Due.STATE;
        }
        x.image();
        for (int hands = 1; hands <= 40; hands++) {
            x.pull(curtain, hands);
            go(x, n);
            boolean does = x.of(curtain, 3) > 0;
            x.undo();
            if (does) {
                return hands;
            }
        }
        return Due.NONE;
    }

    private static int tryTie(CurtainHouse x, int n) {
        x.image();
        int cut = x.now(1);
        int best = Due.NONE;
        int fewest = 9;
        for (int set = 0; set < 1 << x.count(1); set++) {
            for (int c = 0; c < 8; c++) {
                if ((set >> c & 1) == 1) {
                    x.change(c, 4, 1);
                }
            }
            go(x, n);
            if (x.now(1) == cut && Integer.bitCount(set) < fewest) {
                fewest = Integer.bitCount(set);
                best = set;
            }
            x.undo();
        }
        return best;
    }

    private static void sceneFor() {
        // It falls behind this BEAT unless the SCENE is one that it LIKES.
        CurtainHouse x = Due.house("drop mood 21 likes 640");
        Due.due("sceneFor(0, 1)", x.sceneFor(0, 1), 7);
        Due.due("sceneFor(0, 0)", x.sceneFor(0, 0), 0);
        Due.due("sceneFor(1, 1)", x.sceneFor(1, 1), 0);
        Due.due("listed(0)", x.listed(0), 0);
        Due.due("sceneFor(-1, 0)", x.sceneFor(-1, 0), Due.BEYOND);
        Due.due("sceneFor(6, 0)", x.sceneFor(6, 0), Due.BEYOND);
        Due.due("sceneFor(0, -1)", x.sceneFor(0, -1), Due.BEYOND);
        Due.due("sceneFor(0, 61)", x.sceneFor(0, 61), Due.BEYOND);
    }

    private static void kindFor() {
        CurtainHouse x = Due.house("iron likes 1;curtain likes 1");
        Due.due("kindFor(0, 0)", x.kindFor(0, 0), 0);
        Due.due("kindFor(0, 1)", x.kindFor(0, 1), 1);
        x.change(1, 2, 0);
        Due.due("kindFor(1, 1)", x.kindFor(1, 1), 5);
        Due.due("of(1, 0)", x.of(1, 0), 0);
        Due.due("kindFor(2, 0)", x.kindFor(2, 0), Due.BEYOND);
        Due.due("kindFor(-1, 0)", x.kindFor(-1, 0), Due.BEYOND);
        Due.due("kindFor(0, -1)", x.kindFor(0, -1), Due.BEYOND);
        Due.due("kindFor(0, 61)", x.kindFor(0, 61), Due.BEYOND);
    }

    private static void moodFor() {
        CurtainHouse x = Due.house("drop;iron");
        Due.due("moodFor(0, 0)", x.moodFor(0, 0), 0);
        Due.due("moodFor(0, 1)", x.moodFor(0, 1), 22);
        Due.due("moodFor(0, 60)", x.moodFor(0, 60), Due.NONE);
        Due.due("moodFor(1, 60)", x.moodFor(1, 60), 0);
        x.change(0, 5, 9999);
        Due.due("moodFor(0, 60), DOWNS can't be more", x.moodFor(0, 60), 0);
        x.change(0, 5, 0);
        x.fire(1);
        Due.due("moodFor(0, 1), fire", x.moodFor(0, 1), Due.NONE);
        Due.due("of(0, 1)", x.of(0, 1), 60);
        Due.due("moodFor(2, 0)", x.moodFor(2, 0), Due.BEYOND);
        Due.due("moodFor(-1, 0)", x.moodFor(-1, 0), Due.BEYOND);
        Due.due("moodFor(0, -1)", x.moodFor(0, -1), Due.BEYOND);
        Due.due("moodFor(0, 61)", x.moodFor(0, 61), Due.BEYOND);
    }

    private static void handsFor() {
        CurtainHouse x = Due.house("curtain high 0;drop;iron high 1 tied;gauze mood 0 high 0");
        Due.due("handsFor(0, 0)", x.handsFor(0, 0), 1);
        x.fire(1);
        // 2 higher by what it RISES, so 30 hands for 5, of which a BEAT takes 4.
        Due.due("handsFor(0, 1)", x.handsFor(0, 1), 30);
        Due.due("handsFor(0, 2)", x.handsFor(0, 2), Due.NONE);
        Due.due("handsFor(1, 1)", x.handsFor(1, 1), Due.NONE);
        Due.due("handsFor(3, 1)", x.handsFor(3, 1), 40);
        Due.due("handsFor(2, 1)", x.handsFor(2, 1), Due.STATE);
        Due.due("handsFor(2, 61)", x.handsFor(2, 61), Due.BEYOND);
        Due.due("handsFor(2, -1)", x.handsFor(2, -1), Due.BEYOND);
        Due.due("handsFor(4, 0)", x.handsFor(4, 0), Due.BEYOND);
        Due.due("handsFor(-1, 0)", x.handsFor(-1, 0), Due.BEYOND);
        Due.due("of(0, 3)", x.of(0, 3), 0);
    }

    private static void tie() {
        CurtainHouse x = Due.house("drop mood 21;iron;drop mood 21;drop mood 21 tied;drop mood 24");
        Due.due("tie(0)", x.tie(0), 0);
        Due.due("tie(1)", x.tie(1), 5);
        Due.due("tie(2)", x.tie(2), 21);
        Due.due("of(0, 4)", x.of(0, 4), 0);
        x.fire(1);
        Due.due("tie(20), fire cuts nothing", x.tie(20), 0);
        Due.due("tie(-1)", x.tie(-1), Due.BEYOND);
        Due.due("tie(21)", x.tie(21), Due.BEYOND);
    }

    private static void please() {
        CurtainHouse x = new CurtainHouse();
        Due.due("please(), nobody", x.please(), 0);
        x.curtain(0, 0);
        Due.due("please(), LIKES none", x.please(), 0);
        x.curtain(0, 6);
        Due.due("please(), one", x.please(), 2);
        x.curtain(0, 2052);
        Due.due("please(), both by 2", x.please(), 4);
        x.curtain(0, 2048);
        Due.due("please(), two of them", x.please(), 2050);
        x.curtain(0, 4);
        Due.due("please(), 2 and 11", x.please(), 2052);
        CurtainHouse y = new CurtainHouse();
        for (int c = 0; c < 8; c++) {
            y.curtain(c % 7, 1 << c + 4);
        }
        Due.due("please(), one each", y.please(), 255 << 4);
    }
}
