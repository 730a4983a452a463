/** The boundary cases of promises 9 to 16, sentence by sentence. */
public final class BeatsBoundsTest {
    private static final int MIN = Integer.MIN_VALUE;
    private static final int MAX = Integer.MAX_VALUE;
    private static final String MIXED = "curtain mood 33 likes 9;velvet mood 41 likes 2;gauze mood 20 high 5;"
            + "drop mood 21 likes 16;cloud high 3";

    public static void main(String[] args) {
        goBeats();
        goBeyond();
        goState();
        nowTells();
        nowOfNobody();
        nowOfAll();
        nowBeyond();
        aheadTells();
        aheadBeyond();
        cutTells();
        cutBeyond();
        downTells();
        downBeyond();
        downNone();
        upTells();
        upBeyond();
        upNone();
        wearyTells();
        wearyBeyond();
        wearyNone();
        savedTells();
        savedBeyond();
        savedNone();
        Due.end();
    }

    /** Any number of BEATS, by as many calls as that takes. */
    private static void pass(CurtainHouse x, int n) {
        for (int left = n; left > 0; left -= Math.min(60, left)) {
            x.go(Math.min(60, left));
        }
    }

    private static CurtainHouse behind(String text, int n) {
        CurtainHouse x = Due.house(text);
        pass(x, n);
        return x;
    }

    private static void goBeats() {
        Doc.says(9, "n BEATS (1 to 60): CUT then.");
        for (int n : new int[] {1, 2, 59, 60}) {
            CurtainHouse x = Due.house(MIXED);
            CurtainHouse y = Due.house(MIXED);
            for (int k = 0; k < n; k++) {
                y.go(1);
            }
            Due.due("go(" + n + ")", x.go(n), y.now(1));
            for (int k = 0; k < 5 * 6; k++) {
                Due.due("of it", x.of(k / 6, k % 6), y.of(k / 6, k % 6));
            }
            Due.due("BEAT", x.now(0), n);
        }
        CurtainHouse x = Due.house("drop mood 0;drop mood 0");
        Due.due("CUT then, not how many more", x.go(1), 2);
        Due.due("CUT then, not how many more", x.go(1), 2);
    }

    private static void goBeyond() {
        Doc.says(9, "BEYOND.");
        new Twins(MIXED).beyond("go(0)", x -> x.go(0)).beyond("go(61)", x -> x.go(61)).beyond("go(-1)", x -> x.go(-1))
                .beyond("go(MIN)", x -> x.go(MIN)).beyond("go(MAX)", x -> x.go(MAX)).stayAlike();
    }

    // The last BEAT is out of reach of 512 calls; beyond them the class keeps to it by its own will.
    private static void goState() {
        Doc.says(9, "STATE: BEAT would be above 99999.");
        CurtainHouse x = Due.house("curtain");
        for (int k = 0; k < 1665; k++) {
            x.go(60);
        }
        x.go(40);
        Due.due("BEAT", x.now(0), 99940);
        int mood = x.of(0, 1);
        Due.due("go(60), to 100000", x.go(60), Due.STATE);
        Due.due("go(61), BEYOND ahead of STATE", x.go(61), Due.BEYOND);
        Due.due("MOOD", x.of(0, 1), mood);
        Due.due("BEAT", x.now(0), 99940);
        x.image();
        Due.due("go(59), to 99999", x.go(59) > 0 ? 1 : 0, 1);
        Due.due("BEAT", x.now(0), 99999);
        Due.due("go(1)", x.go(1), Due.STATE);
        Due.due("go(60)", x.go(60), Due.STATE);
        x.undo();
        Due.due("go(1), BEAT is 99940 again", x.go(1) > 0 ? 1 : 0, 1);
        Due.due("status(4)", x.status(4), 3);
    }

    private static void nowTells() {
        Doc.says(10, "What 0 BEAT, 1 CUT, 2 SAVED, 3 CURTAINS that are down, as a set, 4 CURTAINS that would fall by MOOD"
                + " now (MOOD below what they BEAR; TIED or not), as a set, 5 MOODS of all together, 6 SCENES that"
                + " somebody LIKES, as a set, 7 FIRE.");
        CurtainHouse x = Due.house("drop mood 5 likes 1024;curtain mood 29 likes 5 high 3 tied;velvet mood 46 likes 4;fire");
        x.go(1);
        // 5 - 2; 29 and 5; 46 - 6: at just what a VELVET BEARS.
        int[] inFire = {1, 0, 100, 1, 1, 77, 1029, 1};
        for (int what = 0; what < 8; what++) {
            Due.due("now(" + what + ")", x.now(what), inFire[what]);
        }
        x.fire(0);
        x.change(0, 3, 20);
        x.go(1);
        // 3 - 3 and 25 by coming down; 34 - 4; 40 - 6.
        int[] then = {2, 1, 100, 1, 4, 89, 1029, 0};
        for (int what = 0; what < 8; what++) {
            Due.due("now(" + what + ")", x.now(what), then[what]);
        }
        x.change(1, 1, 29);
        Due.due("now(4), a TIED one, too", x.now(4), 6);
    }

    private static void nowOfNobody() {
        Doc.says(10, "What 0 BEAT");
        CurtainHouse x = new CurtainHouse();
        x.go(60);
        int[] want = {60, 0, 0, 0, 0, 0, 0, 0};
        for (int what = 0; what < 8; what++) {
            Due.due("now(" + what + ")", x.now(what), want[what]);
        }
    }

    private static void nowOfAll() {
        Doc.says(10, "5 MOODS of all together");
        CurtainHouse x = new CurtainHouse();
        for (int c = 0; c < 8; c++) {
            x.curtain(0, 1 << c + 4);
            x.change(c, 1, 99);
            x.change(c, 3, 0);
        }
        Due.due("now(3), all", x.now(3), 255);
        Due.due("now(4), none", x.now(4), 0);
        Due.due("now(5), 99 each", x.now(5), 792);
        Due.due("now(6)", x.now(6), 4080);
        for (int c = 0; c < 8; c++) {
            x.change(c, 1, 0);
        }
        Due.due("now(4), all", x.now(4), 255);
        Due.due("now(5), 0 each", x.now(5), 0);
    }

    private static void nowBeyond() {
        Doc.says(10, "BEYOND.");
        new Twins(MIXED).beyond("now(-1)", x -> x.now(-1)).beyond("now(8)", x -> x.now(8))
                .beyond("now(MIN)", x -> x.now(MIN)).beyond("now(MAX)", x -> x.now(MAX)).stayAlike();
    }

    private static void aheadTells() {
        Doc.says(11, "What 1, 3, 5, 8 (as in of()) of a CURTAIN behind n (0 to 100) BEATS.");
        for (String fire : new String[] {"", ";fire"}) {
            for (int n : new int[] {0, 1, 2, 6, 60, 99, 100}) {
                CurtainHouse x = Due.house(MIXED + fire);
                CurtainHouse y = behind(MIXED + fire, n);
                for (int c = 0; c < 5; c++) {
                    for (int what : new int[] {1, 3, 5, 8}) {
                        Due.due("ahead(" + c + ", " + what + ", " + n + ")", x.ahead(c, what, n), y.of(c, what));
                    }
                }
                Due.due("BEAT", x.now(0), 0);
                Due.due("CUT, SAVED", x.now(1) + x.now(2), 0);
            }
        }
    }

    private static void aheadBeyond() {
        Doc.says(11, "BEYOND.");
        Twins t = new Twins("curtain;drop");
        for (int k : new int[] {0, 2, 4, 6, 7, 9, 10, 11, -1, MIN, MAX}) {
            t.beyond("ahead(0, " + k + ", 0)", x -> x.ahead(0, k, 0));
        }
        for (int k : new int[] {-1, 101, MIN, MAX}) {
            t.beyond("ahead(0, 1, " + k + ")", x -> x.ahead(0, 1, k));
        }
        for (int k : new int[] {-1, 2, MIN, MAX}) {
            t.beyond("ahead(" + k + ", 1, 0)", x -> x.ahead(k, 1, 0));
        }
        t.stayAlike();
        new Twins("").beyond("no CURTAINS", x -> x.ahead(0, 1, 0)).stayAlike();
    }

    private static void cutTells() {
        Doc.says(12, "CUT behind n (0 to 100) BEATS.");
        for (int n : new int[] {0, 1, 2, 6, 60, 61, 99, 100}) {
            CurtainHouse x = behind(MIXED, 11);
            int was = x.now(1);
            Due.due("cut(" + n + ")", x.cut(n), behind(MIXED, 11 + n).now(1));
            Due.due("CUT", x.now(1), was);
            Due.due("BEAT", x.now(0), 11);
        }
        CurtainHouse x = behind("drop mood 0;fire", 0);
        Due.due("cut(100), a FIRE cuts nothing", x.cut(100), 0);
        Due.due("cut(100), nobody does", new CurtainHouse().cut(100), 0);
    }

    private static void cutBeyond() {
        Doc.says(12, "BEYOND.");
        new Twins(MIXED).beyond("cut(-1)", x -> x.cut(-1)).beyond("cut(101)", x -> x.cut(101))
                .beyond("cut(MIN)", x -> x.cut(MIN)).beyond("cut(MAX)", x -> x.cut(MAX)).stayAlike();
    }

    private static void downTells() {
        Doc.says(13, "Behind how many BEATS (0 to 200, the fewest) a CURTAIN is down.");
        CurtainHouse x = Due.house("iron high 0;drop mood 21;iron;curtain high 0 tied");
        Due.due("down(0), now", x.down(0), 0);
        Due.due("down(1), behind the next", x.down(1), 1);
        Due.due("down(3), now, though TIED", x.down(3), 0);
        x.fire(1);
        Due.due("down(2), by 1 each", x.down(2), 20);
        String late = "drop mood 90 likes 36";
        Due.due("down(0), the last that is told", Due.house(late).down(0), 200);
        Due.due("HIGH behind 199", behind(late, 199).of(0, 3) > 0 ? 1 : 0, 1);
        Due.due("HIGH behind 200", behind(late, 200).of(0, 3), 0);
    }

    private static void downBeyond() {
        Doc.says(13, "BEYOND.");
        new Twins("curtain;drop").beyond("down(-1)", x -> x.down(-1)).beyond("down(2)", x -> x.down(2))
                .beyond("down(MIN)", x -> x.down(MIN)).beyond("down(MAX)", x -> x.down(MAX)).stayAlike();
        new Twins("").beyond("no CURTAINS", x -> x.down(0)).stayAlike();
    }

    private static void downNone() {
        Doc.says(13, "NONE.");
        String later = "drop mood 86 likes 9";
        Due.due("HIGH behind 201", behind(later, 201).of(0, 3), 0);
        Due.due("down(0), a BEAT on", behind(later, 1).down(0), 200);
        new Twins(later + ";iron;drop mood 0 high 1 tied").refuses("behind 201", Due.NONE, x -> x.down(0))
                .refuses("never", Due.NONE, x -> x.down(1)).refuses("TIED", Due.NONE, x -> x.down(2)).stayAlike();
    }

    private static void upTells() {
        Doc.says(14, "Behind how many BEATS (0 to 200, the fewest) HIGH of a CURTAIN is 20.");
        CurtainHouse x = Due.house("drop mood 0;drop high 14;drop high 13;iron high 0;drop tied");
        Due.due("up(0), now", x.up(0), 0);
        Due.due("up(1), behind the next", x.up(1), 1);
        Due.due("up(2), 19 is not 20", x.up(2), 2);
        Due.due("up(3), by 1 each", x.up(3), 20);
        Due.due("up(4), now, though TIED", x.up(4), 0);
        String late = "velvet mood 51 likes 17 high 7";
        Due.due("up(0), the last that is told", Due.house(late).up(0), 200);
        Due.due("HIGH behind 199", behind(late, 199).of(0, 3), 19);
        Due.due("HIGH behind 200", behind(late, 200).of(0, 3), 20);
    }

    private static void upBeyond() {
        Doc.says(14, "BEYOND.");
        new Twins("curtain;drop").beyond("up(-1)", x -> x.up(-1)).beyond("up(2)", x -> x.up(2))
                .beyond("up(MIN)", x -> x.up(MIN)).beyond("up(MAX)", x -> x.up(MAX)).stayAlike();
        new Twins("").beyond("no CURTAINS", x -> x.up(0)).stayAlike();
    }

    private static void upNone() {
        Doc.says(14, "NONE.");
        String later = "velvet mood 53 likes 33 high 4";
        Due.due("HIGH behind 201", behind(later, 201).of(0, 3), 20);
        Due.due("up(0), a BEAT on", behind(later, 1).up(0), 200);
        new Twins(later + ";curtain mood 0 high 0;drop high 19 tied").refuses("behind 201", Due.NONE, x -> x.up(0))
                .refuses("never", Due.NONE, x -> x.up(1)).refuses("TIED", Due.NONE, x -> x.up(2)).stayAlike();
        new Twins("iron high 19;fire").refuses("in a FIRE", Due.NONE, x -> x.up(0)).stayAlike();
    }

    private static void wearyTells() {
        Doc.says(15, "Behind how many BEATS (0 to 200, the fewest) MOOD of a CURTAIN is v (0 to 99) or less.");
        CurtainHouse x = Due.house("curtain mood 50 tied;iron mood 0;iron mood 99;fringe high 0");
        Due.due("weary(0, 99)", x.weary(0, 99), 0);
        Due.due("weary(0, 51)", x.weary(0, 51), 0);
        Due.due("weary(0, 50), or less", x.weary(0, 50), 0);
        Due.due("weary(0, 49)", x.weary(0, 49), 1);
        Due.due("weary(0, 46)", x.weary(0, 46), 1);
        Due.due("weary(0, 45)", x.weary(0, 45), 2);
        Due.due("weary(0, 0)", x.weary(0, 0), 13);
        Due.due("weary(1, 0)", x.weary(1, 0), 0);
        Due.due("weary(2, 99)", x.weary(2, 99), 0);
        // A DROP's round: 4 and 4 more, 2 and 2 and 2 and 3 less by SCENES 0, 0, 0, 1: 1 less.
        String round = "drop mood 60 likes 20 tied;scene 3 0;scene 5 0";
        Due.due("weary, the last that is told", Due.house(round).weary(0, 22), 200);
        Due.due("MOOD behind 199", behind(round, 199).of(0, 1) > 22 ? 1 : 0, 1);
        Due.due("MOOD behind 200", behind(round, 200).of(0, 1), 22);
    }

    private static void wearyBeyond() {
        Doc.says(15, "BEYOND.");
        Twins t = new Twins("curtain;drop");
        for (int k : new int[] {-1, 100, MIN, MAX}) {
            t.beyond("weary(0, " + k + ")", x -> x.weary(0, k));
        }
        for (int k : new int[] {-1, 2, MIN, MAX}) {
            t.beyond("weary(" + k + ", 99)", x -> x.weary(k, 99));
        }
        t.stayAlike();
        new Twins("").beyond("no CURTAINS", x -> x.weary(0, 99)).stayAlike();
    }

    private static void wearyNone() {
        Doc.says(15, "NONE.");
        // The same round with its odd SCENE in place 1: MOOD is 20 behind BEAT 201 for the first time.
        String later = "drop likes 20 tied;scene 1 0;scene 2 1;scene 3 2;scene 4 0;scene 5 4";
        Due.due("MOOD behind 201", behind(later, 201).of(0, 1), 20);
        Due.due("weary(0, 20), a BEAT on", behind(later, 1).weary(0, 20), 200);
        new Twins(later + ";iron mood 1;fringe high 0 tied").refuses("behind 201", Due.NONE, x -> x.weary(0, 20))
                .refuses("never, an IRON", Due.NONE, x -> x.weary(1, 0))
                .refuses("never, a FRINGE that is down", Due.NONE, x -> x.weary(2, 59)).stayAlike();
    }

    // All that can come down in a FIRE does so in 20 BEATS, so that 200 is never reached here.
    private static void savedTells() {
        Doc.says(16, "Behind how many BEATS (0 to 200, the fewest) SAVED is v (0 to 900) or more.");
        CurtainHouse x = Due.house("fire;drop;drop;iron;gauze;drop tied;drop high 0");
        int[][] rows = {{0, 0}, {1, 1}, {100, 1}, {101, 1}, {200, 1}, {201, 4}, {300, 4}, {301, 20}, {400, 20}};
        for (int[] row : rows) {
            Due.due("saved(" + row[0] + ")", x.saved(row[0]), row[1]);
        }
        Due.due("SAVED", x.now(2), 0);
        x.go(4);
        Due.due("saved(300), as now", x.saved(300), 0);
        Due.due("saved(301)", x.saved(301), 16);
        x = Due.house("fire;drop;drop;drop;drop;drop;drop;drop;drop");
        x.go(1);
        x.change(0, 3, 20);
        Due.due("saved(900)", x.saved(900), 1);
        x.go(1);
        Due.due("saved(900), as now", x.saved(900), 0);
        x.fire(0);
        Due.due("saved(900), as now, FIRE or not", x.saved(900), 0);
    }

    private static void savedBeyond() {
        Doc.says(16, "BEYOND.");
        new Twins("fire;drop;iron").beyond("saved(-1)", x -> x.saved(-1)).beyond("saved(901)", x -> x.saved(901))
                .beyond("saved(MIN)", x -> x.saved(MIN)).beyond("saved(MAX)", x -> x.saved(MAX)).stayAlike();
    }

    private static void savedNone() {
        Doc.says(16, "NONE.");
        new Twins("fire;drop;iron").refuses("one too many", Due.NONE, x -> x.saved(201))
                .refuses("the most", Due.NONE, x -> x.saved(900)).stayAlike();
        new Twins("drop mood 0").refuses("no FIRE", Due.NONE, x -> x.saved(1)).stayAlike();
        new Twins("fire").refuses("nobody", Due.NONE, x -> x.saved(1)).stayAlike();
    }
}
