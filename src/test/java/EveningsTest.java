/** Promises 25 to 27: evening, odds, seed. */
public final class EveningsTest {
    public static void main(String[] args) {
        evening();
        eveningByCalls();
        eveningWithoutCurtains();
        odds();
        seed();
        Due.end();
    }

    private static int z;

    private static int draw() {
        z = z * 1103515245 + 12345;
        return z >>> 8;
    }

    private static void evening() {
        CurtainHouse x = Due.house("curtain;iron");
        Due.due("evening(0)", x.evening(0), Due.BEYOND);
        Due.due("evening(21)", x.evening(21), Due.BEYOND);
        Due.due("z", x.count(6), 1);
        // z: 1103527590, then -1770082073; the draws 4310654 and 9862832: SCENE 2, CURTAIN 0.
        Due.due("evening(1)", x.evening(1), 0);
        Due.due("z", x.count(6), -1770082073);
        Due.due("listed(0)", x.listed(0), 2);
        Due.due("of(0, 2)", x.of(0, 2), 4);
        Due.due("of(0, 1), it LIKES it already", x.of(0, 1), 65);
        Due.due("of(1, 2)", x.of(1, 2), 0);
        Due.due("BEAT", x.now(0), 1);
        x.seed(1);
        x.evening(1);
        Due.due("listed(1)", x.listed(1), 2);
        Due.due("of(0, 2), it doesn't any more", x.of(0, 2), 0);
        Due.due("of(0, 1)", x.of(0, 1), 61);
    }

    private static void eveningByCalls() {
        CurtainHouse x = Due.house("curtain mood 33;velvet likes 4095;gauze;drop;cloud high 3;fringe");
        CurtainHouse y = Due.house("curtain mood 33;velvet likes 4095;gauze;drop;cloud high 3;fringe");
        z = 77;
        x.seed(77);
        y.seed(77);
        for (int round = 1; round <= 20; round++) {
            for (int k = 0; k < round; k++) {
                int scene = draw() % 12;
                int curtain = draw() % 8;
                y.scene(y.now(0) % 6, scene);
                if (curtain < 6) {
                    y.change(curtain, 2, y.of(curtain, 2) ^ 1 << scene);
                }
                y.go(1);
            }
            Due.due("evening(" + round + ")", x.evening(round), y.now(1));
            Due.due("z", x.count(6), z);
            for (int c = 0; c < 6; c++) {
                for (int what = 0; what < 11; what++) {
                    Due.due("of(" + c + ", " + what + ")", x.of(c, what), y.of(c, what));
                }
            }
        }
    }

    private static void eveningWithoutCurtains() {
        CurtainHouse x = new CurtainHouse();
        Due.due("evening(20)", x.evening(20), 0);
        z = 1;
        int[] list = new int[6];
        for (int k = 0; k < 20; k++) {
            list[k % 6] = draw() % 12;
            draw();
        }
        for (int i = 0; i < 6; i++) {
            Due.due("listed(" + i + ")", x.listed(i), list[i]);
        }
        Due.due("z", x.count(6), z);
        Due.due("BEAT", x.now(0), 20);
    }

    private static void odds() {
        CurtainHouse x = Due.house("curtain;gauze likes 4095;drop likes 2047;iron likes 15;cloud likes 1");
        Due.due("odds(0, 0, 0)", x.odds(0, 0, 0), 1);
        Due.due("odds(0, 0, 1)", x.odds(0, 0, 1), 1);
        Due.due("odds(0, 1, 0)", x.odds(0, 1, 0), 0);
        Due.due("odds(0, 17, 1)", x.odds(0, 17, 1), 1);
        Due.due("odds(1, 17, 0)", x.odds(1, 17, 0), 1);
        Due.due("odds(1, 17, 1)", x.odds(1, 17, 1), 1);
        Due.due("odds(2, 17, 0)", x.odds(2, 17, 0), 505447028499293771L);
        Due.due("odds(2, 17, 1)", x.odds(2, 17, 1), 2218611106740436992L);
        Due.due("odds(3, 5, 0)", x.odds(3, 5, 0), 1);
        Due.due("odds(3, 5, 1)", x.odds(3, 5, 1), 243);
        Due.due("odds(4, 2, 0)", x.odds(4, 2, 0), 1);
        Due.due("odds(4, 2, 1)", x.odds(4, 2, 1), 144);
        int[] above = {0, 1, 1, 1, 1, 5, 1, 7, 2, 3, 5, 11, 1};
        int[] below = {1, 12, 6, 4, 3, 12, 2, 12, 3, 4, 6, 12, 1};
        for (int liked = 0; liked <= 12; liked++) {
            x.change(0, 2, (1 << liked) - 1);
            Due.due("odds by " + liked + ", above", x.odds(0, 3, 0), (long) above[liked] * above[liked] * above[liked]);
            Due.due("odds by " + liked + ", below", x.odds(0, 3, 1), (long) below[liked] * below[liked] * below[liked]);
        }
        Due.due("odds(5, 0, 0)", x.odds(5, 0, 0), Due.BEYOND);
        Due.due("odds(-1, 0, 0)", x.odds(-1, 0, 0), Due.BEYOND);
        Due.due("odds(0, -1, 0)", x.odds(0, -1, 0), Due.BEYOND);
        Due.due("odds(0, 18, 0)", x.odds(0, 18, 0), Due.BEYOND);
        Due.due("odds(0, 0, -1)", x.odds(0, 0, -1), Due.BEYOND);
        Due.due("odds(0, 0, 2)", x.odds(0, 0, 2), Due.BEYOND);
        Due.due("status(0)", x.status(0), 6);
    }

    private static void seed() {
        CurtainHouse x = new CurtainHouse();
        Due.due("seed(-1000001)", x.seed(-1000001), 1);
        Due.due("seed(5)", x.seed(5), -1000001);
        Due.due("what z was is no finding", x.status(-1), 0);
        Due.due("count(6)", x.count(6), 5);
        Due.due("seed of the least", x.seed(Integer.MIN_VALUE), 5);
        Due.due("count(6)", x.count(6), Integer.MIN_VALUE);
        Due.due("status(-1)", x.status(-1), 0);
    }
}
