/** The boundary cases of DRAWS and of promises 25 to 27, sentence by sentence. */
public final class EveningsBoundsTest {
    private static final int MIN = Integer.MIN_VALUE;
    private static final int MAX = Integer.MAX_VALUE;
    private static final int TIMES = 1103515245;
    private static final int MORE = 12345;
    private static final String EIGHT = "iron;iron;iron;iron;iron;iron;iron;iron";

    public static void main(String[] args) {
        drawsWrapAround();
        drawsAreNeverBelowZero();
        eveningTimes();
        eveningScenes();
        eveningCurtains();
        eveningLikesAndDoesnt();
        eveningThisBeat();
        eveningBeyond();
        eveningState();
        oddsOfNone();
        oddsInLowestTerms();
        oddsSeventeen();
        oddsBeyond();
        seedBecomes();
        seedIsNoFinding();
        Due.end();
    }

    private static int next(int z) {
        return (int) ((long) z * TIMES + MORE);
    }

    private static int drawn(int z) {
        return (int) ((z & 0xFFFFFFFFL) / 256);
    }

    /** What z must be for a draw to make it this: the draw turned round, by Newton's steps. */
    private static int ahead(int z) {
        int turned = TIMES;
        for (int k = 0; k < 5; k++) {
            turned *= 2 - TIMES * turned;
        }
        return (z - MORE) * turned;
    }

    /** A z from which the first draw tells a SCENE and the second one a rest by 8. */
    private static int seedFor(int scene, int rest) {
        // Its low byte, which no draw gives, must vary: it settles much of the draw ahead.
        for (int k = 0; k < 1 << 20; k++) {
            int second = (k / 256 * 8 + rest) * 256 + k % 256;
            if (drawn(ahead(second)) % 12 == scene) {
                return ahead(ahead(second));
            }
        }
        throw new IllegalArgumentException("no z for SCENE " + scene + ", rest " + rest);
    }

    private static void drawsWrapAround() {
        Doc.says(0, "DRAWS: z is told (1 at first); each makes it z * 1103515245 + 12345 (an int), and gives z >>> 8.");
        Due.due("count(6), at first", new CurtainHouse().count(6), 1);
        for (int z : new int[] {0, 1, -1, MIN, MAX, 123456789, ahead(0), ahead(-1), ahead(MIN), ahead(MAX)}) {
            CurtainHouse x = new CurtainHouse();
            x.seed(z);
            x.evening(1);
            Due.due("z behind two draws from " + z, x.count(6), next(next(z)));
            Due.due("listed(0) by the first", x.listed(0), drawn(next(z)) % 12);
        }
    }

    private static void drawsAreNeverBelowZero() {
        Doc.says(0, "gives z >>> 8.");
        // -1 gives 16777215, of which 3 is the rest by 12; MIN gives 8388608, with a rest of 8.
        int[][] rows = {{-1, 3}, {MIN, 8}, {MAX, 7}, {0, 0}, {255, 0}, {256, 1}, {-256, 3}, {-257, 2}};
        for (int[] row : rows) {
            CurtainHouse x = new CurtainHouse();
            x.scene(0, 11);
            x.seed(ahead(row[0]));
            x.evening(1);
            Due.due("listed(0) by a draw of z " + row[0], x.listed(0), row[1]);
        }
        // The second draw, of 7 by -1, and of 0 by MIN.
        CurtainHouse x = Due.house(EIGHT);
        x.seed(ahead(ahead(-1)));
        x.evening(1);
        Due.due("of(7, 2)", Integer.bitCount(x.of(7, 2)), 1);
        x.seed(ahead(ahead(MIN)));
        x.evening(1);
        Due.due("of(0, 2)", Integer.bitCount(x.of(0, 2)), 1);
    }

    private static void eveningTimes() {
        Doc.says(25, "n times (1 to 20) two draws: THE LIST tells for this BEAT the SCENE of the first one's rest by 12;"
                + " the CURTAIN of the second one's rest by 8, if there is one, LIKES that SCENE from then on, if it"
                + " didn't, and doesn't, if it did; then a BEAT: CUT then.");
        for (int n : new int[] {1, 2, 19, 20}) {
            String text = "drop mood 10;curtain mood 40;gauze;cloud high 4;velvet";
            CurtainHouse x = Due.house(text);
            CurtainHouse y = Due.house(text);
            for (int k = 0; k < n; k++) {
                y.evening(1);
            }
            Due.due("evening(" + n + ")", x.evening(n), y.now(1));
            Due.due("BEAT", x.now(0), n);
            Due.due("z", x.count(6), y.count(6));
            for (int k = 0; k < 5 * 6; k++) {
                Due.due("of it", x.of(k / 6, k % 6), y.of(k / 6, k % 6));
            }
        }
        CurtainHouse x = Due.house("drop mood 0;drop mood 0");
        x.seed(seedFor(1, 7));
        Due.due("CUT then", x.evening(1), 2);
        Due.due("CUT then, not how many more", x.evening(1), 2);
    }

    private static void eveningScenes() {
        Doc.says(25, "the SCENE of the first one's rest by 12");
        for (int scene = 0; scene < 12; scene++) {
            CurtainHouse x = new CurtainHouse();
            x.seed(seedFor(scene, 0));
            Due.due("evening(1), nobody", x.evening(1), 0);
            Due.due("listed(0)", x.listed(0), scene);
            for (int i = 1; i < 6; i++) {
                Due.due("listed(" + i + ")", x.listed(i), i);
            }
        }
    }

    private static void eveningCurtains() {
        Doc.says(25, "the CURTAIN of the second one's rest by 8, if there is one, ");
        for (int many = 0; many <= 8; many++) {
            for (int rest = 0; rest < 8; rest++) {
                CurtainHouse x = new CurtainHouse();
                for (int c = 0; c < many; c++) {
                    x.curtain(5, 0);
                }
                x.seed(seedFor(11, rest));
                x.evening(1);
                for (int c = 0; c < many; c++) {
                    Due.due("LIKES of " + c + " of " + many + " by " + rest, x.of(c, 2), c == rest ? 2048 : 0);
                }
                Due.due("a BEAT all the same", x.now(0), 1);
                Due.due("no finding", x.status(-1), 0);
            }
        }
    }

    private static void eveningLikesAndDoesnt() {
        Doc.says(25, "LIKES that SCENE from then on, if it didn't, and doesn't, if it did");
        int[][] rows = {{0, 0, 1}, {0, 4095, 4094}, {11, 0, 2048}, {11, 4095, 2047}, {5, 32, 0}, {5, 31, 63}};
        for (int[] row : rows) {
            CurtainHouse x = new CurtainHouse();
            x.curtain(0, row[1]);
            x.change(0, 4, 1);
            x.seed(seedFor(row[0], 0));
            x.evening(1);
            Due.due("LIKES, SCENE " + row[0], x.of(0, 2), row[2]);
            // The BEAT comes behind the change.
            Due.due("MOOD, SCENE " + row[0], x.of(0, 1), (row[2] >> row[0] & 1) == 1 ? 65 : 56);
        }
    }

    private static void eveningThisBeat() {
        Doc.says(25, "THE LIST tells for this BEAT");
        for (int beat = 0; beat < 8; beat++) {
            CurtainHouse x = new CurtainHouse();
            for (int k = 0; k < beat; k++) {
                x.go(1);
            }
            x.seed(seedFor(9, 0));
            x.evening(1);
            for (int i = 0; i < 6; i++) {
                Due.due("listed(" + i + ") behind BEAT " + beat, x.listed(i), i == beat % 6 ? 9 : i);
            }
        }
    }

    private static void eveningBeyond() {
        Doc.says(25, "BEYOND.");
        new Twins("drop;iron").beyond("evening(0)", x -> x.evening(0)).beyond("evening(21)", x -> x.evening(21))
                .beyond("evening(-1)", x -> x.evening(-1)).beyond("evening(MIN)", x -> x.evening(MIN))
                .beyond("evening(MAX)", x -> x.evening(MAX)).stayAlike();
    }

    // The last BEAT is out of reach of 512 calls; beyond them the class keeps to it by its own will.
    private static void eveningState() {
        Doc.says(25, "STATE: BEAT would be above 99999.");
        CurtainHouse x = Due.house("iron likes 5");
        for (int k = 0; k < 1666; k++) {
            x.go(60);
        }
        x.go(20);
        Due.due("BEAT", x.now(0), 99980);
        Due.due("evening(20), to 100000", x.evening(20), Due.STATE);
        Due.due("evening(21), BEYOND ahead of STATE", x.evening(21), Due.BEYOND);
        Due.due("z, BEAT, LIKES", x.count(6) + x.now(0) + x.of(0, 2), 1 + 99980 + 5);
        Due.due("evening(19), to 99999", x.evening(19), 0);
        Due.due("BEAT", x.now(0), 99999);
        int z = x.count(6);
        Due.due("evening(1)", x.evening(1), Due.STATE);
        Due.due("z", x.count(6), z);
    }

    private static void oddsOfNone() {
        Doc.says(26, "The odds that n (0 to 17) SCENES, each the rest by 12 of a draw, are all such as a CURTAIN LIKES: ");
        CurtainHouse x = Due.house("curtain;curtain likes 4095;curtain likes 1");
        for (int c = 0; c < 3; c++) {
            Due.due("no SCENES, above", x.odds(c, 0, 0), 1);
            Due.due("no SCENES, below", x.odds(c, 0, 1), 1);
        }
        for (int n = 1; n <= 17; n++) {
            Due.due("LIKES none, above", x.odds(0, n, 0), 0);
            Due.due("LIKES none, below", x.odds(0, n, 1), 1);
            Due.due("LIKES all, above", x.odds(1, n, 0), 1);
            Due.due("LIKES all, below", x.odds(1, n, 1), 1);
        }
        Due.due("z stays: nothing is drawn", x.count(6), 1);
    }

    private static void oddsInLowestTerms() {
        Doc.says(26, "a fraction in lowest terms: above (what 0), below the line (1).");
        int[] above = {0, 1, 1, 1, 1, 5, 1, 7, 2, 3, 5, 11, 1};
        int[] below = {1, 12, 6, 4, 3, 12, 2, 12, 3, 4, 6, 12, 1};
        CurtainHouse x = Due.house("curtain");
        for (int liked = 0; liked <= 12; liked++) {
            // The last SCENES of the twelve, so that each of them counts.
            x.change(0, 2, 4095 & 4095 << 12 - liked);
            for (int n = 1; n <= 2; n++) {
                Due.due("above, " + liked + " of 12", x.odds(0, n, 0), n == 1 ? above[liked] : above[liked] * above[liked]);
                Due.due("below, " + liked + " of 12", x.odds(0, n, 1), n == 1 ? below[liked] : below[liked] * below[liked]);
            }
        }
    }

    private static void oddsSeventeen() {
        Doc.says(26, "The odds that n (0 to 17) SCENES");
        CurtainHouse x = Due.house("iron likes 1;iron likes 2047;iron likes 127");
        java.math.BigInteger twelve = java.math.BigInteger.valueOf(12).pow(17);
        Due.due("1 above 12 to the 17th", x.odds(0, 17, 0), 1);
        Due.due("12 to the 17th", x.odds(0, 17, 1), twelve.longValueExact());
        Due.due("11 to the 17th", x.odds(1, 17, 0), java.math.BigInteger.valueOf(11).pow(17).longValueExact());
        Due.due("12 to the 17th", x.odds(1, 17, 1), twelve.longValueExact());
        Due.due("7 to the 17th", x.odds(2, 17, 0), java.math.BigInteger.valueOf(7).pow(17).longValueExact());
        Due.due("12 to the 16th", x.odds(2, 16, 1), twelve.longValueExact() / 12);
    }

    private static void oddsBeyond() {
        Doc.says(26, "BEYOND.");
        Twins t = new Twins("curtain;drop likes 4095");
        for (int k : new int[] {-1, 18, MIN, MAX}) {
            t.beyond("odds(1, " + k + ", 0)", x -> x.odds(1, k, 0));
        }
        for (int k : new int[] {-1, 2, MIN, MAX}) {
            t.beyond("odds(1, 0, " + k + ")", x -> x.odds(1, 0, k));
            t.beyond("odds(" + k + ", 0, 0)", x -> x.odds(k, 0, 0));
        }
        t.stayAlike();
        new Twins("").beyond("no CURTAINS", x -> x.odds(0, 0, 0)).stayAlike();
    }

    private static void seedBecomes() {
        Doc.says(27, "z becomes v: what it was.");
        CurtainHouse x = new CurtainHouse();
        int was = 1;
        for (int v : new int[] {0, -1, MIN, MAX, 1, 1}) {
            Due.due("seed(" + v + ")", x.seed(v), was);
            Due.due("count(6)", x.count(6), v);
            was = v;
        }
        x.seed(77);
        x.evening(3);
        int z = 77;
        for (int k = 0; k < 6; k++) {
            z = next(z);
        }
        Due.due("seed(1), behind six draws", x.seed(1), z);
    }

    private static void seedIsNoFinding() {
        Doc.says(27, "what it was.");
        CurtainHouse x = new CurtainHouse();
        for (int finding = Due.BEYOND; finding >= Due.SIZE; finding--) {
            x.seed(finding);
            Due.due("count(6)", x.count(6), finding);
        }
        Due.due("seed(0)", x.seed(0), Due.SIZE);
        Due.due("what z was is no finding", x.status(-1), 0);
    }
}
