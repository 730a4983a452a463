/** Promises 23 and 24: fits, kinds. */
public final class HeightsTest {
    public static void main(String[] args) {
        findings();
        anyAndNow();
        fits();
        fitsAgainSixBeatsOn();
        kinds();
        tryAllOut();
        Due.end();
    }

    private static void findings() {
        CurtainHouse x = Due.house("curtain");
        Due.due("fits(-1, 9)", x.fits(-1, 9), Due.BEYOND);
        Due.due("fits(4, 0)", x.fits(4, 0), Due.BEYOND);
        Due.due("fits(0, 9), MISSING first", x.fits(0, 9), Due.MISSING);
        Due.due("kinds(-1, 9)", x.kinds(-1, 9), Due.BEYOND);
        Due.due("kinds(4, 0)", x.kinds(4, 0), Due.BEYOND);
        Due.due("kinds(3, 9), MISSING first", x.kinds(3, 9), Due.MISSING);
        x.sheet(0, 8, 1);
        Due.due("fits(0, 1)", x.fits(0, 1), Due.BEYOND);
        Due.due("fits(0, -1)", x.fits(0, -1), Due.BEYOND);
        Due.due("kinds(0, 1)", x.kinds(0, 1), Due.BEYOND);
        Due.due("kinds(0, -1)", x.kinds(0, -1), Due.BEYOND);
        Due.due("status(0)", x.status(0), 8);
        Due.due("status(5)", x.status(5), 2);
    }

    private static void anyAndNow() {
        CurtainHouse x = Due.house("curtain high 7");
        x.sheet(0, 16, 0);
        Due.due("fits, nothing told", x.fits(0, 0), 4095);
        Due.due("kinds, nothing told", x.kinds(0, 0), 127);
        for (int bits = 8; bits <= 32; bits *= 2) {
            Due.tell(x, 1, bits, 7);
            Due.due("fits, now", x.fits(1, 0), 4095);
            Due.due("kinds, now", x.kinds(1, 0), 127);
            Due.tell(x, 1, bits, 8);
            Due.due("fits, not now", x.fits(1, 0), 0);
            Due.due("kinds, not now", x.kinds(1, 0), 0);
            Due.tell(x, 1, bits, -1, -1, -1);
            Due.due("fits, any", x.fits(1, 0), 4095);
            Due.due("kinds, any", x.kinds(1, 0), 127);
            Due.tell(x, 1, bits, -1, -2);
            Due.due("fits, -2 is none", x.fits(1, 0), 0);
        }
    }

    private static void fits() {
        // Behind the BEAT it is at 12 if it was glad, else at 6.
        CurtainHouse x = Due.house("curtain mood 31 likes 2570 high 10");
        x.go(2);
        x.change(0, 1, 31);
        x.change(0, 3, 10);
        Due.tell(x, 2, 32, 10, 12);
        Due.due("fits, glad", x.fits(2, 0), 2570);
        Due.tell(x, 2, 32, 10, 6);
        Due.due("fits, not glad", x.fits(2, 0), 4095 - 2570);
        Due.tell(x, 2, 32, 10, 7);
        Due.due("fits, neither", x.fits(2, 0), 0);
        Due.due("THE LIST stays", x.listed(2), 2);
        Due.due("HIGH stays", x.of(0, 3), 10);
        Due.due("BEAT stays", x.now(0), 2);
    }

    // What THE LIST tells for this BEAT it tells again six BEATS on.
    private static void fitsAgainSixBeatsOn() {
        // 34 if glad now, 21 behind the other five: it stays up then if it is glad again.
        CurtainHouse x = Due.house("drop mood 30 likes 1024");
        int[] told = {-1, -1, -1, -1, -1, -1, -1, 20};
        Due.tell(x, 0, 8, told);
        Due.due("fits", x.fits(0, 0), 1024);
        Due.due("fits, tried", tryFits(x, told, 0), 1024);
    }

    private static void kinds() {
        CurtainHouse x = Due.house("curtain mood 10 high 10");
        Due.tell(x, 0, 16, 10, 6);
        Due.due("kinds, 4 lower", x.kinds(0, 0), 1);
        Due.tell(x, 0, 16, 10, 8);
        Due.due("kinds, 2 lower", x.kinds(0, 0), 1 << 1 | 1 << 6);
        Due.tell(x, 0, 16, -1, 11);
        Due.due("kinds, 1 higher", x.kinds(0, 0), 1 << 5);
        Due.tell(x, 0, 16, -1, 0, 6);
        Due.due("kinds, drops and comes up", x.kinds(0, 0), 1 << 3);
        x.fire(1);
        Due.tell(x, 0, 16, 10, 2);
        Due.due("kinds, in a fire", x.kinds(0, 0), 1 << 6);
        Due.due("KIND stays", x.of(0, 0), 0);
    }

    private static void tryAllOut() {
        CurtainHouse x = Due.house("curtain mood 33 likes 9;cloud mood 45 likes 7 high 12;"
                + "fringe mood 39 likes 64 high 2;gauze mood 20 high 5;drop likes 1365");
        for (int round = 0; round < 40; round++) {
            int curtain = round % 5;
            int[] told = toldBy(x, round % 12, curtain, 1 + round % 13);
            Due.tell(x, 0, 8, told);
            int fits = tryFits(x, told, curtain);
            Due.due("the one that it was told by, round " + round, fits >> round % 12 & 1, 1);
            Due.due("fits, round " + round, x.fits(0, curtain), fits);
            Due.due("kinds, round " + round, x.kinds(0, curtain), tryKinds(x, told, curtain));
            x.evening(1);
        }
    }

    /** How HIGH goes if THE LIST tells a SCENE for this BEAT, every third one left open. */
    private static int[] toldBy(CurtainHouse x, int scene, int curtain, int length) {
        x.image();
        x.scene(x.now(0) % 6, scene);
        int[] told = new int[length];
        for (int n = 0; n < length; n++) {
            told[n] = n % 3 == 1 ? -1 : x.ahead(curtain, 3, n);
        }
        x.undo();
        return told;
    }

    private static int tryFits(CurtainHouse x, int[] told, int curtain) {
        int set = 0;
        x.image();
        for (int scene = 0; scene < 12; scene++) {
            x.scene(x.now(0) % 6, scene);
            set |= goesAsTold(x, told, curtain) ? 1 << scene : 0;
            x.undo();
        }
        return set;
    }

    private static int tryKinds(CurtainHouse x, int[] told, int curtain) {
        int set = 0;
        x.image();
        for (int kind = 0; kind < 7; kind++) {
            x.change(curtain, 0, kind);
            set |= goesAsTold(x, told, curtain) ? 1 << kind : 0;
            x.undo();
        }
        return set;
    }

    private static boolean goesAsTold(CurtainHouse x, int[] told, int curtain) {
        for (int n = 0; n < told.length; n++) {
            if (told[n] != -1 && told[n] != x.ahead(curtain, 3, n)) {
                return false;
            }
        }
        return true;
    }
}
