/** What a BEAT does at its limits (the second of the document's terms), sentence by sentence. */
public final class OneBeatBoundsTest {
    private static final String[] KINDS = {"curtain", "velvet", "gauze", "drop", "cloud", "iron", "fringe"};
    private static final int[] GLADDENS = {5, 10, 4, 4, 5, 0, 8};
    private static final int[] TIRES = {4, 6, 2, 2, 1, 0, 6};
    private static final int[] BEARS = {30, 40, 20, 20, 40, 0, 40};
    private static final int[] FALLS = {4, 2, 6, 20, 5, 1, 2};
    private static final int[] RISES = {2, 1, 3, 6, 6, 1, 1};
    private static final int IRON = 5;

    public static void main(String[] args) {
        sceneOfTheBeat();
        sceneWrapsAround();
        moodNinetyNineAtMost();
        moodZeroAtLeast();
        tiedNeitherFallsNorRises();
        belowWhatItBears();
        fallsInFireWhateverItsMood();
        heightZeroAtLeast();
        heightTwentyAtMost();
        downByThatAndWasnt();
        downsAtMost();
        savedAtMost();
        cutAndMood();
        cutAtMost();
        beatIsOneMore();
        beatAtMost();
        Due.end();
    }

    /** A house with one CURTAIN, behind one BEAT of SCENE 0. */
    private static CurtainHouse behind(String text) {
        CurtainHouse x = Due.house(text);
        x.go(1);
        return x;
    }

    private static void row(String call, CurtainHouse x, int mood, int high, int downs) {
        Due.due(call + ": MOOD", x.of(0, 1), mood);
        Due.due(call + ": HIGH", x.of(0, 3), high);
        Due.due(call + ": DOWNS", x.of(0, 5), downs);
    }

    private static void sceneOfTheBeat() {
        Doc.says(0, "A BEAT goes by: S is the SCENE of THE LIST for BEAT modulo 6.");
        CurtainHouse x = Due.house("velvet mood 0 likes 2048 tied;scene 4 11");
        int[] moods = {0, 0, 0, 0, 10, 4};
        for (int beat = 0; beat < 6; beat++) {
            x.go(1);
            Due.due("MOOD behind BEAT " + beat, x.of(0, 1), moods[beat]);
        }
    }

    private static void sceneWrapsAround() {
        Doc.says(0, "for BEAT modulo 6");
        CurtainHouse x = Due.house("velvet mood 0 likes 1 tied");
        for (int beat = 0; beat < 62; beat++) {
            x.change(0, 1, 50);
            x.go(1);
            Due.due("MOOD behind BEAT " + beat, x.of(0, 1), beat % 6 == 0 ? 60 : 44);
        }
    }

    private static void moodNinetyNineAtMost() {
        Doc.says(0, "CURTAINS by numbers: (1) MOOD is what it GLADDENS more (99 at most), if it LIKES S, ");
        for (int kind = 0; kind < 7; kind++) {
            String likes = " likes 1 tied";
            int just = 99 - GLADDENS[kind];
            row(KINDS[kind] + " to 98", behind(KINDS[kind] + " mood " + (just - 1) + likes), 98, 20, 0);
            row(KINDS[kind] + " to 99", behind(KINDS[kind] + " mood " + just + likes), 99, 20, 0);
            if (kind != IRON) {
                row(KINDS[kind] + " not to 100", behind(KINDS[kind] + " mood " + (just + 1) + likes), 99, 20, 0);
            }
            row(KINDS[kind] + " from 99", behind(KINDS[kind] + " mood 99" + likes), 99, 20, 0);
        }
    }

    private static void moodZeroAtLeast() {
        Doc.says(0, "else what it TIRES less (0 at least).");
        for (int kind = 0; kind < 7; kind++) {
            int just = TIRES[kind];
            row(KINDS[kind] + " to 1", behind(KINDS[kind] + " mood " + (just + 1) + " tied"), 1, 20, 0);
            row(KINDS[kind] + " to 0", behind(KINDS[kind] + " mood " + just + " tied"), 0, 20, 0);
            if (kind != IRON) {
                row(KINDS[kind] + " not to -1", behind(KINDS[kind] + " mood " + (just - 1) + " tied"), 0, 20, 0);
            }
            row(KINDS[kind] + " from 0", behind(KINDS[kind] + " mood 0 tied"), 0, 20, 0);
        }
    }

    private static void tiedNeitherFallsNorRises() {
        Doc.says(0, "(2) Unless it is TIED: ");
        for (int kind = 0; kind < 7; kind++) {
            String one = KINDS[kind];
            row(one + " in a FIRE", behind("fire;" + one + " mood 99 likes 1 high 1 tied"), 99, 1, 0);
            row(one + " by its MOOD", behind(one + " mood 0 high 1 tied"), 0, 1, 0);
            row(one + " glad", behind(one + " mood 99 likes 1 high 19 tied"), 99, 19, 0);
            row(one + " down", behind(one + " mood 99 likes 1 high 0 tied"), 99, 0, 0);
        }
        CurtainHouse x = behind("fire;drop high 1 tied");
        Due.due("SAVED", x.now(2), 0);
        x = behind("drop mood 0 high 1 tied");
        Due.due("CUT", x.now(1), 0);
    }

    private static void belowWhatItBears() {
        Doc.says(0, "if FIRE is or MOOD is below what it BEARS, it FALLS (0 at least); ");
        for (int kind = 0; kind < 7; kind++) {
            // (1) comes ahead of (2): what counts is MOOD behind the SCENE, by which it tires or is glad.
            int just = BEARS[kind] + TIRES[kind];
            row(KINDS[kind] + " at what it BEARS", behind(KINDS[kind] + " mood " + just + " high 10"),
                    BEARS[kind], 10 + RISES[kind], 0);
            if (kind != IRON && FALLS[kind] < 10) {
                row(KINDS[kind] + " at 1 less", behind(KINDS[kind] + " mood " + (just - 1) + " high 10"),
                        BEARS[kind] - 1, 10 - FALLS[kind], 0);
            }
            just = Math.max(0, BEARS[kind] - GLADDENS[kind]);
            row(KINDS[kind] + ", glad, at what it BEARS", behind(KINDS[kind] + " mood " + just + " likes 1 high 10"),
                    BEARS[kind], 10 + RISES[kind], 0);
        }
    }

    private static void fallsInFireWhateverItsMood() {
        Doc.says(0, "if FIRE is or MOOD is below");
        for (int kind = 0; kind < 7; kind++) {
            CurtainHouse x = behind("fire;" + KINDS[kind] + " mood 99 likes 1");
            int falls = FALLS[kind] + (kind == 6 ? 6 : 0);
            row(KINDS[kind], x, 99, 20 - falls, falls == 20 ? 1 : 0);
        }
    }

    private static void heightZeroAtLeast() {
        Doc.says(0, "it FALLS (0 at least)");
        for (int kind = 0; kind < 7; kind++) {
            int falls = FALLS[kind] + (kind == 6 ? 6 : 0);
            String one = "fire;" + KINDS[kind] + " mood 99 likes 1 high ";
            if (falls < 20) {
                row(KINDS[kind] + " to 1", behind(one + (falls + 1)), 99, 1, 0);
            }
            row(KINDS[kind] + " to 0", behind(one + falls), 99, 0, 1);
            row(KINDS[kind] + " not to -1", behind(one + (falls - 1)), 99, 0, falls == 1 ? 0 : 1);
            row(KINDS[kind] + " from 0", behind(one + 0), 99, 0, 0);
        }
    }

    private static void heightTwentyAtMost() {
        Doc.says(0, "else it RISES (20 at most).");
        for (int kind = 0; kind < 7; kind++) {
            String one = KINDS[kind] + " mood 99 likes 1 high ";
            int just = 20 - RISES[kind];
            row(KINDS[kind] + " to 19", behind(one + (just - 1)), 99, 19, 0);
            row(KINDS[kind] + " to 20", behind(one + just), 99, 20, 0);
            row(KINDS[kind] + " not to 21", behind(one + (just + 1)), 99, 20, 0);
            row(KINDS[kind] + " from 20", behind(one + 20), 99, 20, 0);
        }
    }

    private static void downByThatAndWasnt() {
        Doc.says(0, "(3) If it is down by that and wasn't ahead of (2): ");
        row("comes down", behind("curtain mood 10 high 4"), 31, 0, 1);
        row("was down", behind("curtain mood 10 high 0"), 6, 0, 0);
        row("isn't down yet", behind("curtain mood 10 high 5"), 6, 1, 0);
        row("comes up", behind("curtain mood 90 high 0"), 86, 2, 0);
        Due.due("CUT by one that was down", behind("curtain mood 10 high 0").now(1), 0);
        Due.due("SAVED by one that was down", behind("fire;curtain high 0").now(2), 0);
        CurtainHouse x = Due.house("curtain mood 10 high 4");
        Due.due("down, and stays down", x.go(2), 1);
        row("once", x, 27, 0, 1);
    }

    private static void downsAtMost() {
        Doc.says(0, "DOWNS is 1 more (9999 at most); ");
        for (String fire : new String[] {"out;", "fire;"}) {
            int[][] rows = {{0, 1}, {9997, 9998}, {9998, 9999}, {9999, 9999}};
            for (int[] row : rows) {
                CurtainHouse x = Due.house(fire + "drop mood 0");
                x.change(0, 5, row[0]);
                x.go(1);
                Due.due(fire + " DOWNS from " + row[0], x.of(0, 5), row[1]);
                Due.due("it counts all the same", x.now(1) * 100 + x.now(2), 100);
            }
        }
    }

    private static void savedAtMost() {
        Doc.says(0, "with FIRE SAVED is 100 more (900 at most), ");
        CurtainHouse x = Due.house("fire;drop mood 10;iron tied");
        for (int k = 1; k <= 11; k++) {
            x.change(0, 3, 20);
            x.go(1);
            Due.due("SAVED by the " + k + "th", x.now(2), Math.min(900, 100 * k));
            Due.due("CUT", x.now(1), 0);
            Due.due("DOWNS", x.of(0, 5), k);
        }
        // From 800 by two in one BEAT.
        x = Due.house("fire;drop;drop;drop;drop;drop;drop;drop;drop");
        x.go(1);
        Due.due("SAVED by eight", x.now(2), 800);
        x.change(3, 3, 20);
        x.change(7, 3, 20);
        x.go(1);
        Due.due("SAVED by two more", x.now(2), 900);
    }

    // MOOD is below what it BEARS then, which is 40 at most, so that 25 more never comes near to 99.
    private static void cutAndMood() {
        Doc.says(0, "else CUT is 1 more (99999 at most), and MOOD 25 more (99 at most).");
        CurtainHouse x = behind("cloud mood 40 high 5");
        row("the greatest MOOD", x, 64, 0, 1);
        Due.due("CUT", x.now(1), 1);
        Due.due("SAVED", x.now(2), 0);
        row("the least MOOD", behind("drop mood 0"), 25, 0, 1);
        row("in a FIRE no MOOD more", behind("fire;cloud mood 99 high 5"), 98, 0, 1);
        row("in a FIRE no MOOD more, though it is below", behind("fire;cloud mood 20 high 5"), 19, 0, 1);
        x = Due.house("drop mood 0;curtain mood 0 high 4;iron;gauze mood 0 high 6");
        Due.due("CUT by three in one BEAT", x.go(1), 3);
    }

    // The most is out of reach of 512 calls; beyond them the class keeps to it by its own will.
    private static void cutAtMost() {
        Doc.says(0, "CUT is 1 more (99999 at most)");
        CurtainHouse x = Due.house("drop mood 0;drop mood 0;drop mood 0;drop mood 0;drop mood 0");
        x.change(4, 4, 1);
        for (int k = 0; k < 24999; k++) {
            for (int c = 0; c < 4; c++) {
                x.change(c, 1, 0);
                x.change(c, 3, 20);
            }
            x.go(1);
        }
        Due.due("CUT by four each", x.now(1), 99996);
        x.change(4, 4, 0);
        int[] want = {99997, 99998, 99999, 99999};
        for (int k = 0; k < 4; k++) {
            x.change(4, 1, 0);
            x.change(4, 3, 20);
            for (int c = 0; c < 4; c++) {
                x.change(c, 3, 0);
            }
            Due.due("tie(1), if CUT would be more", x.tie(1), k < 3 ? 16 : 0);
            Due.due("cut(1)", x.cut(1), want[k]);
            Due.due("CUT by one more", x.go(1), want[k]);
            Due.due("its MOOD all the same", x.of(4, 1), 25);
        }
    }

    private static void beatIsOneMore() {
        Doc.says(0, "BEAT is one more ");
        CurtainHouse x = new CurtainHouse();
        for (int k = 1; k <= 13; k++) {
            x.go(1);
            Due.due("BEAT, without CURTAINS, too", x.now(0), k);
        }
        x.go(60);
        Due.due("BEAT", x.now(0), 73);
    }

    // Out of reach of 512 calls, too. Only a look ahead goes beyond it: go() and evening() refuse.
    private static void beatAtMost() {
        Doc.says(0, "(99999 at most).");
        CurtainHouse x = Due.house("curtain likes 8 tied");
        for (int k = 0; k < 1666; k++) {
            x.go(60);
        }
        x.go(38);
        Due.due("BEAT", x.now(0), 99998);
        x.change(0, 1, 50);
        // SCENE 2 by BEAT 99998, then SCENE 3, which it LIKES, by BEAT 99999 on and on.
        int[] moods = {50, 46, 51, 56, 61};
        for (int n = 0; n < moods.length; n++) {
            Due.due("MOOD ahead " + n, x.ahead(0, 1, n), moods[n]);
        }
        x.go(1);
        Due.due("BEAT", x.now(0), 99999);
        Due.due("go(1)", x.go(1), Due.STATE);
        Due.due("weary(0, 0), it is glad for ever", x.weary(0, 0), Due.NONE);
        Due.due("BEAT", x.now(0), 99999);
    }
}
