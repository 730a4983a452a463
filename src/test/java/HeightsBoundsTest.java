/** The boundary cases of promises 23 and 24, sentence by sentence. */
public final class HeightsBoundsTest {
    private static final int MIN = Integer.MIN_VALUE;
    private static final int MAX = Integer.MAX_VALUE;
    private static final int ALL_SCENES = 4095;
    private static final int ALL_KINDS = 127;

    public static void main(String[] args) {
        fitsNow();
        fitsAny();
        fitsEveryBeatFurtherOn();
        fitsThisBeat();
        fitsForty();
        fitsNoSuchSheet();
        fitsMissing();
        fitsNoSuchCurtain();
        kindsNow();
        kindsLikewise();
        kindsForty();
        kindsNoSuchSheet();
        kindsMissing();
        kindsNoSuchCurtain();
        Due.end();
    }

    /** What fits() answers for the only CURTAIN of a house. */
    private static int fits(String text, int... told) {
        CurtainHouse x = Due.house(text);
        Due.tell(x, 0, 8, told);
        return x.fits(0, 0);
    }

    private static int kinds(String text, int... told) {
        CurtainHouse x = Due.house(text);
        Due.tell(x, 0, 8, told);
        return x.kinds(0, 0);
    }

    /** Forty times any HIGH, but for the last one. */
    private static int[] fortyAnd(int last) {
        int[] told = new int[40];
        java.util.Arrays.fill(told, -1);
        told[39] = last;
        return told;
    }

    private static void fitsNow() {
        Doc.says(23, "SCENES each of which, if THE LIST told it for this BEAT, makes that HIGH of a CURTAIN now and"
                + " behind each BEAT further on is as a sheet tells (-1: any), as a set.");
        Due.due("no numbers", fits("curtain"), ALL_SCENES);
        Due.due("now, down", fits("curtain high 0", 0), ALL_SCENES);
        Due.due("now, up", fits("curtain", 20), ALL_SCENES);
        Due.due("not now, 1 less", fits("curtain", 19), 0);
        Due.due("not now, 1 more", fits("curtain", 21), 0);
        Due.due("not now, but then", fits("curtain high 18", 20, 20), 0);
    }

    private static void fitsAny() {
        Doc.says(23, "(-1: any)");
        for (int bits = 8; bits <= 32; bits *= 2) {
            CurtainHouse x = Due.house("curtain high 7");
            Due.tell(x, 3, bits, -1);
            Due.due("any now", x.fits(3, 0), ALL_SCENES);
            Due.due("any now, KINDS", x.kinds(3, 0), ALL_KINDS);
            Due.tell(x, 3, bits, -1, -1, -1, -1, -1, -1, -1);
            Due.due("any ever", x.fits(3, 0), ALL_SCENES);
            Due.tell(x, 3, bits, -2);
            Due.due("-2 isn't any", x.fits(3, 0), 0);
            Due.due("-2 isn't any, KINDS", x.kinds(3, 0), 0);
            Due.tell(x, 3, bits, MIN);
            Due.due("the least isn't any", x.fits(3, 0), 0);
        }
        CurtainHouse x = Due.house("curtain high 7");
        Due.tell(x, 0, 8, 255, 256 + 9);
        Due.due("255 in 8 bits is -1, 265 is 9", x.fits(0, 0), ALL_SCENES);
        Due.tell(x, 0, 16, 65535);
        Due.due("65535 in 16 bits is -1", x.fits(0, 0), ALL_SCENES);
        Due.tell(x, 0, 16, 255);
        Due.due("255 in 16 bits isn't", x.fits(0, 0), 0);
        Due.tell(x, 0, 32, 65535);
        Due.due("65535 in 32 bits isn't", x.fits(0, 0), 0);
    }

    private static void fitsEveryBeatFurtherOn() {
        Doc.says(23, "behind each BEAT further on");
        // At just what it BEARS behind a SCENE that it doesn't LIKE, so it rises behind that one.
        String text = "curtain mood 34 likes 2049 high 10";
        Due.due("behind the first", fits(text, 10, 12), ALL_SCENES);
        // Glad: 39, 35, 31, 27; else 30, 26: its second BEAT tells them apart.
        Due.due("behind the second, glad", fits(text, 10, 12, 14), 2049);
        Due.due("behind the second, tired", fits(text, 10, 12, 8), ALL_SCENES - 2049);
        Due.due("behind the second, neither", fits(text, 10, 12, 9), 0);
        Due.due("the first one open", fits(text, -1, -1, 14), 2049);
        Due.due("one that is wrong is enough", fits(text, -1, 11, 14), 0);
    }

    private static void fitsThisBeat() {
        Doc.says(23, "if THE LIST told it for this BEAT");
        for (int beat = 0; beat <= 7; beat++) {
            CurtainHouse x = Due.house("iron;gauze mood 21 likes 1088 high 10");
            x.change(1, 4, 1);
            for (int k = 0; k < beat; k++) {
                x.go(1);
            }
            x.change(1, 4, 0);
            x.change(1, 1, 21);
            Due.tell(x, 0, 8, 10, 13);
            Due.due("glad by this BEAT's, BEAT " + beat, x.fits(0, 1), 1088);
            Due.tell(x, 0, 8, 10, 4);
            Due.due("tired by this BEAT's, BEAT " + beat, x.fits(0, 1), ALL_SCENES - 1088);
            for (int i = 0; i < 6; i++) {
                Due.due("THE LIST stays", x.listed(i), i);
            }
            Due.due("BEAT stays", x.now(0), beat);
            Due.due("HIGH stays", x.of(1, 3), 10);
        }
        // It is told again six BEATS on: 34 by SCENE 10 now, 22 behind the others, 26 by it again.
        Due.due("six BEATS on", fits("drop mood 30 likes 1024", -1, -1, -1, -1, -1, -1, -1, 20), 1024);
    }

    private static void fitsForty() {
        Doc.says(23, "behind each BEAT further on");
        CurtainHouse x = Due.house("iron high 0");
        int[] told = new int[40];
        for (int n = 0; n < 40; n++) {
            told[n] = Math.min(20, n);
        }
        Due.tell(x, 0, 8, told);
        Due.due("all forty", x.fits(0, 0), ALL_SCENES);
        x.write(0, 39, 19);
        Due.due("the last one is wrong", x.fits(0, 0), 0);
        Due.due("the last one alone", fits("iron", fortyAnd(20)), ALL_SCENES);
        Due.due("the last one alone, wrong", fits("iron", fortyAnd(0)), 0);
    }

    private static void fitsNoSuchSheet() {
        Doc.says(23, "BEYOND: no such sheet.");
        new Twins("curtain").beyond("fits(-1, 0)", x -> x.fits(-1, 0)).beyond("fits(4, 0)", x -> x.fits(4, 0))
                .beyond("fits(4, 1)", x -> x.fits(4, 1)).beyond("fits(MIN, 0)", x -> x.fits(MIN, 0))
                .beyond("fits(MAX, 0)", x -> x.fits(MAX, 0)).stayAlike();
    }

    private static void fitsMissing() {
        Doc.says(23, "MISSING.");
        new Twins("curtain").refuses("fits(3, 0)", Due.MISSING, x -> x.fits(3, 0))
                .refuses("ahead of no such CURTAIN", Due.MISSING, x -> x.fits(3, 1))
                .refuses("ahead of no such CURTAIN", Due.MISSING, x -> x.fits(3, -1)).stayAlike();
    }

    private static void fitsNoSuchCurtain() {
        Doc.says(23, "BEYOND: no such CURTAIN.");
        new Twins("curtain").beyond("fits(0, -1)", x -> x.fits(0, -1)).beyond("fits(0, 1)", x -> x.fits(0, 1))
                .beyond("no numbers", x -> x.fits(2, 1)).beyond("fits(0, MIN)", x -> x.fits(0, MIN))
                .beyond("fits(0, MAX)", x -> x.fits(0, MAX)).stayAlike();
        new Twins("").beyond("no CURTAINS", x -> x.fits(0, 0)).stayAlike();
    }

    private static void kindsNow() {
        Doc.says(24, "KINDS that it could be of, as a set, likewise.");
        Due.due("no numbers", kinds("curtain"), ALL_KINDS);
        Due.due("now, down", kinds("iron high 0", 0), ALL_KINDS);
        Due.due("now, up", kinds("fringe", 20), ALL_KINDS);
        Due.due("not now", kinds("curtain", 19), 0);
    }

    private static void kindsLikewise() {
        Doc.says(24, "KINDS that it could be of");
        // MOOD 0: all but an IRON fall, by 4, 2, 6, 20, 5, 2; it rises by 1.
        int[][] rows = {{6, 1}, {8, 1 << 1 | 1 << 6}, {4, 1 << 2}, {0, 1 << 3}, {5, 1 << 4}, {11, 1 << 5}, {7, 0}};
        for (int[] row : rows) {
            Due.due("to " + row[0], kinds("velvet mood 0 high 10", 10, row[0]), row[1]);
        }
        Due.due("in a FIRE a FRINGE falls by 8", kinds("velvet mood 99 high 10;fire", 10, 2), 1 << 6);
        Due.due("the first, the last", kinds("curtain mood 0 high 10", 10, -1), ALL_KINDS);
        CurtainHouse x = Due.house("iron;velvet mood 0 high 10");
        Due.tell(x, 2, 32, 10, 11);
        Due.due("of another one", x.kinds(2, 1), 1 << 5);
        Due.due("KIND stays", x.of(1, 0), 1);
        Due.due("HIGH stays", x.of(1, 3), 10);
        Due.due("MOOD stays", x.of(1, 1), 0);
        // By the SCENE of this BEAT: SCENE 1 is odd, by which a DROP and a CLOUD tire 1 more.
        x = Due.house("gauze");
        x.go(1);
        x.change(0, 1, 22);
        x.change(0, 3, 10);
        Due.tell(x, 0, 8, 10, 0);
        Due.due("a DROP falls, at 19", x.kinds(0, 0), 1 << 3);
        x.go(1);
        x.change(0, 1, 22);
        x.change(0, 3, 10);
        Due.due("a DROP doesn't, at 20", x.kinds(0, 0), 0);
    }

    private static void kindsForty() {
        Doc.says(24, "as a set, likewise.");
        // Without LIKES all tire out but an IRON, which comes up to 20 and stays there.
        Due.due("the last one alone", kinds("curtain high 0", fortyAnd(20)) >> 5 & 1, 1);
        int[] told = new int[40];
        for (int n = 0; n < 40; n++) {
            told[n] = Math.min(20, n);
        }
        Due.due("all forty", kinds("curtain high 0", told), 1 << 5);
        told[39] = 21;
        Due.due("the last one is wrong", kinds("curtain high 0", told), 0);
    }

    private static void kindsNoSuchSheet() {
        Doc.says(24, "BEYOND: no such sheet.");
        new Twins("curtain").beyond("kinds(-1, 0)", x -> x.kinds(-1, 0)).beyond("kinds(4, 0)", x -> x.kinds(4, 0))
                .beyond("kinds(4, 1)", x -> x.kinds(4, 1)).beyond("kinds(MIN, 0)", x -> x.kinds(MIN, 0))
                .beyond("kinds(MAX, 0)", x -> x.kinds(MAX, 0)).stayAlike();
    }

    private static void kindsMissing() {
        Doc.says(24, "MISSING.");
        new Twins("curtain").refuses("kinds(3, 0)", Due.MISSING, x -> x.kinds(3, 0))
                .refuses("ahead of no such CURTAIN", Due.MISSING, x -> x.kinds(3, 1))
                .refuses("ahead of no such CURTAIN", Due.MISSING, x -> x.kinds(3, -1)).stayAlike();
    }

    private static void kindsNoSuchCurtain() {
        Doc.says(24, "BEYOND: no such CURTAIN.");
        new Twins("curtain").beyond("kinds(0, -1)", x -> x.kinds(0, -1)).beyond("kinds(0, 1)", x -> x.kinds(0, 1))
                .beyond("no numbers", x -> x.kinds(2, 1)).beyond("kinds(0, MIN)", x -> x.kinds(0, MIN))
                .beyond("kinds(0, MAX)", x -> x.kinds(0, MAX)).stayAlike();
        new Twins("").beyond("no CURTAINS", x -> x.kinds(0, 0)).stayAlike();
    }
}
