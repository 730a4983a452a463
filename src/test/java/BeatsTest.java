/** Promises 9 to 16: go, now, ahead, cut, down, up, weary, saved. */
public final class BeatsTest {
    public static void main(String[] args) {
        goWrong();
        goToTheLastBeat();
        moods();
        heights();
        comingDown();
        tied();
        fire();
        fringe();
        listByBeats();
        now();
        ahead();
        cut();
        down();
        up();
        weary();
        saved();
        Due.end();
    }

    private static void row(String call, CurtainHouse x, int curtain, int mood, int high, int downs) {
        Due.due(call + ": MOOD", x.of(curtain, 1), mood);
        Due.due(call + ": HIGH", x.of(curtain, 3), high);
        Due.due(call + ": DOWNS", x.of(curtain, 5), downs);
    }

    private static void goWrong() {
        CurtainHouse x = new CurtainHouse();
        Due.due("go(0)", x.go(0), Due.BEYOND);
        Due.due("go(61)", x.go(61), Due.BEYOND);
        Due.due("go(-1)", x.go(-1), Due.BEYOND);
        Due.due("BEAT", x.now(0), 0);
        Due.due("go(60)", x.go(60), 0);
        Due.due("go(1)", x.go(1), 0);
        Due.due("BEAT", x.now(0), 61);
    }

    // More calls than an object is promised for, as the last BEAT is out of reach of 512.
    private static void goToTheLastBeat() {
        CurtainHouse x = Due.house("curtain");
        for (int k = 0; k < 1666; k++) {
            x.go(60);
        }
        Due.due("BEAT", x.now(0), 99960);
        Due.due("go(40)", x.go(40), Due.STATE);
        Due.due("evening(20)", x.evening(20) >= 0 ? 1 : 0, 1);
        Due.due("evening(20)", x.evening(20), Due.STATE);
        Due.due("z", x.count(6) != 1 ? 1 : 0, 1);
        Due.due("evening(21), BEYOND first", x.evening(21), Due.BEYOND);
        Due.due("go(61), BEYOND first", x.go(61), Due.BEYOND);
        Due.due("go(18)", x.go(18) >= 0 ? 1 : 0, 1);
        Due.due("evening(1), to the last BEAT", x.evening(1) >= 0 ? 1 : 0, 1);
        Due.due("BEAT", x.now(0), 99999);
        Due.due("go(1)", x.go(1), Due.STATE);
        Due.due("evening(1)", x.evening(1), Due.STATE);
        // The last BEAT stays, so its SCENE (place 99999 % 6, which is 3) stays, too.
        x.change(0, 1, 99);
        x.change(0, 2, 1 << x.listed(3));
        Due.due("ahead at the last BEAT", x.ahead(0, 1, 9), 99);
        x.change(0, 2, 4095 ^ 1 << x.listed(3));
        Due.due("ahead at the last BEAT", x.ahead(0, 1, 9), 63);
        Due.due("BEAT", x.now(0), 99999);
    }

    private static void moods() {
        CurtainHouse x = Due.house("curtain;velvet mood 95 likes 1;iron mood 2 likes 1;drop mood 1");
        x.go(1);
        row("tired", x, 0, 56, 20, 0);
        row("glad, 99 at most", x, 1, 99, 20, 0);
        row("iron", x, 2, 2, 20, 0);
        Due.due("0 at least, then 25 more by coming down", x.of(3, 1), 25);
    }

    private static void heights() {
        CurtainHouse x = Due.house("curtain mood 33;curtain mood 34 high 5;gauze mood 5 high 7;"
                + "curtain high 19");
        x.go(1);
        row("below 30", x, 0, 29, 16, 0);
        row("30 is not below", x, 1, 30, 7, 0);
        row("gauze", x, 2, 3, 1, 0);
        row("20 at most", x, 3, 56, 20, 0);
        Due.due("CUT", x.now(1), 0);
    }

    private static void comingDown() {
        CurtainHouse x = Due.house("curtain mood 10 high 3;curtain mood 10 high 0;drop mood 21 high 20");
        x.change(2, 5, 9999);
        Due.due("go(1)", x.go(1), 2);
        row("down", x, 0, 31, 0, 1);
        row("was down", x, 1, 6, 0, 0);
        row("drop, 19 is below 20, DOWNS 9999 at most", x, 2, 44, 0, 9999);
    }

    private static void tied() {
        CurtainHouse x = Due.house("curtain mood 9 high 1 tied;velvet mood 70 likes 1 high 3 tied");
        x.fire(1);
        x.go(1);
        row("tied in a fire", x, 0, 5, 1, 0);
        row("tied and glad", x, 1, 80, 3, 0);
        x.fire(0);
        x.go(1);
        row("tied", x, 0, 1, 1, 0);
        Due.due("SAVED", x.now(2), 0);
        Due.due("CUT", x.now(1), 0);
    }

    private static void fire() {
        CurtainHouse x = Due.house("fire;curtain likes 1 high 4;drop;drop;drop;drop;drop;drop;drop");
        Due.due("go(1)", x.go(1), 0);
        row("down by the fire, with no more MOOD", x, 0, 65, 0, 1);
        row("drop", x, 1, 58, 0, 1);
        Due.due("SAVED", x.now(2), 800);
        x.go(5);
        Due.due("SAVED, all are down", x.now(2), 800);
        for (int c = 1; c < 8; c++) {
            x.change(c, 3, 20);
        }
        Due.due("go(1)", x.go(1), 0);
        Due.due("SAVED, 900 at most", x.now(2), 900);
    }

    private static void fringe() {
        CurtainHouse x = Due.house("fringe mood 20 high 2;fringe mood 20 high 0;fringe mood 90 high 9");
        x.go(1);
        row("comes down, tired ahead of that", x, 0, 39, 0, 1);
        row("is down, not tired", x, 1, 20, 0, 0);
        row("rises", x, 2, 84, 10, 0);
        x.fire(1);
        x.go(1);
        row("falls by 8", x, 2, 78, 2, 0);
    }

    private static void listByBeats() {
        CurtainHouse x = Due.house("curtain likes 512 tied;scene 2 9");
        int[] moods = {56, 52, 57, 53, 49, 45, 41, 37, 42};
        for (int mood : moods) {
            x.go(1);
            Due.due("MOOD behind BEAT " + x.now(0), x.of(0, 1), mood);
        }
    }

    private static void now() {
        CurtainHouse x = Due.house("curtain mood 29 likes 3 tied;velvet mood 40 likes 4;"
                + "gauze mood 19 high 0;iron mood 0 likes 2048");
        Due.due("now(-1)", x.now(-1), Due.BEYOND);
        Due.due("now(8)", x.now(8), Due.BEYOND);
        Due.due("down", x.now(3), 4);
        Due.due("would fall", x.now(4), 5);
        Due.due("moods", x.now(5), 88);
        Due.due("liked", x.now(6), 2055);
        x.fire(1);
        Due.due("fire", x.now(7), 1);
        Due.due("would fall by MOOD, not by FIRE", x.now(4), 5);
        x.go(20);
        Due.due("BEAT", x.now(0), 20);
        Due.due("CUT", x.now(1), 0);
        Due.due("SAVED", x.now(2), 200);
        Due.due("down", x.now(3), 14);
    }

    private static void ahead() {
        CurtainHouse x = Due.house("curtain mood 10 high 3;cloud");
        int[] told = {10, 31, 27, 23, 19};
        for (int n = 0; n < told.length; n++) {
            Due.due("MOOD ahead " + n, x.ahead(0, 1, n), told[n]);
        }
        Due.due("HIGH ahead", x.ahead(0, 3, 0), 3);
        Due.due("HIGH ahead", x.ahead(0, 3, 1), 0);
        Due.due("HIGH ahead", x.ahead(0, 3, 2), 0);
        Due.due("DOWNS ahead", x.ahead(0, 5, 1), 1);
        Due.due("BEARS ahead", x.ahead(1, 8, 100), 40);
        Due.due("ahead(0, 1, -1)", x.ahead(0, 1, -1), Due.BEYOND);
        Due.due("ahead(0, 1, 101)", x.ahead(0, 1, 101), Due.BEYOND);
        Due.due("ahead(2, 1, 0)", x.ahead(2, 1, 0), Due.BEYOND);
        Due.due("ahead(-1, 1, 0)", x.ahead(-1, 1, 0), Due.BEYOND);
        for (int what = -1; what <= 11; what++) {
            if (what != 1 && what != 3 && what != 5 && what != 8) {
                Due.due("ahead(0, " + what + ", 0)", x.ahead(0, what, 0), Due.BEYOND);
            }
        }
        row("nothing changed", x, 0, 10, 3, 0);
        Due.due("BEAT", x.now(0), 0);
        Due.due("CUT", x.now(1), 0);
    }

    private static void cut() {
        CurtainHouse x = Due.house("curtain mood 10 high 3;drop mood 24;velvet mood 41 high 9");
        for (int n = 0; n <= 100; n++) {
            int told = x.cut(n);
            Due.due("cut(" + n + "): now", x.now(1), 0);
            x.image();
            for (int k = 0; k < n; k++) {
                x.go(1);
            }
            Due.due("cut(" + n + ")", told, x.now(1));
            x.undo();
        }
        Due.due("cut(1)", x.cut(1), 1);
        Due.due("cut(-1)", x.cut(-1), Due.BEYOND);
        Due.due("cut(101)", x.cut(101), Due.BEYOND);
    }

    private static void down() {
        CurtainHouse x = Due.house("curtain mood 33;gauze high 0;iron;curtain mood 0 high 9 tied");
        // 16, 12, 8, 4, 0, as MOOD goes down from 29.
        Due.due("down(0)", x.down(0), 5);
        Due.due("down(1)", x.down(1), 0);
        Due.due("down(2)", x.down(2), Due.NONE);
        Due.due("down(3)", x.down(3), Due.NONE);
        Due.due("down(4)", x.down(4), Due.BEYOND);
        Due.due("down(-1)", x.down(-1), Due.BEYOND);
        x.fire(1);
        Due.due("down(2)", x.down(2), 20);
        Due.due("HIGH", x.of(2, 3), 20);
        // 1 less a round of THE LIST, and 5 less behind two BEATS of a round: 19 behind BEAT 200.
        x = Due.house("drop mood 57 likes 20;drop mood 58 likes 20;scene 3 0;scene 5 0");
        Due.due("down(0)", x.down(0), 200);
        Due.due("down(1)", x.down(1), Due.NONE);
        // The same, a BEAT later: 19 behind BEAT 201.
        x = Due.house("drop mood 59 likes 20;scene 1 0;scene 2 1;scene 3 2;scene 4 0;scene 5 4");
        Due.due("down(0)", x.down(0), Due.NONE);
        x.go(1);
        Due.due("down(0)", x.down(0), 200);
    }

    private static void up() {
        CurtainHouse x = Due.house("curtain high 10;velvet mood 5;iron high 0;gauze high 19 tied");
        // Its MOOD of 60 lets it rise by 2 for seven BEATS.
        Due.due("up(0)", x.up(0), 5);
        Due.due("up(1)", x.up(1), 0);
        Due.due("up(2)", x.up(2), 20);
        Due.due("up(3)", x.up(3), Due.NONE);
        Due.due("up(4)", x.up(4), Due.BEYOND);
        Due.due("up(-1)", x.up(-1), Due.BEYOND);
        x.fire(1);
        Due.due("up(0)", x.up(0), Due.NONE);
        Due.due("status(3)", x.status(3), 2);
    }

    private static void weary() {
        CurtainHouse x = Due.house("drop likes 20 tied;curtain;scene 3 0;scene 5 0");
        Due.due("weary(0, 60)", x.weary(0, 60), 0);
        Due.due("weary(0, 22)", x.weary(0, 22), 200);
        Due.due("weary(0, 21)", x.weary(0, 21), Due.NONE);
        Due.due("weary(1, 59)", x.weary(1, 59), 1);
        Due.due("weary(1, 99)", x.weary(1, 99), 0);
        Due.due("weary(1, 100)", x.weary(1, 100), Due.BEYOND);
        Due.due("weary(1, -1)", x.weary(1, -1), Due.BEYOND);
        Due.due("weary(2, 0)", x.weary(2, 0), Due.BEYOND);
        Due.due("weary(-1, 0)", x.weary(-1, 0), Due.BEYOND);
        Due.due("MOOD", x.of(0, 1), 60);
        x.change(1, 1, 7);
        x.change(1, 4, 1);
        Due.due("weary(1, 0)", x.weary(1, 0), 2);
        x.change(1, 1, 0);
        Due.due("weary(1, 0)", x.weary(1, 0), 0);
        x = Due.house("drop likes 20 tied;scene 1 0;scene 2 1;scene 3 2;scene 4 0;scene 5 4");
        Due.due("weary(0, 20), 201", x.weary(0, 20), Due.NONE);
        Due.due("weary(0, 21)", x.weary(0, 21), 195);
    }

    private static void saved() {
        CurtainHouse x = Due.house("fire;drop;drop;iron;curtain tied");
        Due.due("saved(0)", x.saved(0), 0);
        Due.due("saved(1)", x.saved(1), 1);
        Due.due("saved(200)", x.saved(200), 1);
        Due.due("saved(201)", x.saved(201), 20);
        Due.due("saved(300)", x.saved(300), 20);
        Due.due("saved(301)", x.saved(301), Due.NONE);
        Due.due("saved(900)", x.saved(900), Due.NONE);
        Due.due("saved(901)", x.saved(901), Due.BEYOND);
        Due.due("saved(-1)", x.saved(-1), Due.BEYOND);
        Due.due("SAVED", x.now(2), 0);
        x.fire(0);
        Due.due("saved(1), no FIRE", x.saved(1), Due.NONE);
    }
}
