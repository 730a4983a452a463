/** The boundary cases of "What it is" and of the terms ahead of BEATS, sentence by sentence. */
public final class TermsBoundsTest {
    private static final String[] KINDS = {"curtain", "velvet", "gauze", "drop", "cloud", "iron", "fringe"};
    private static final int CLOUD = 4;
    private static final int FRINGE = 6;

    public static void main(String[] args) {
        callsOfAnObject();
        findings();
        ordersOfHouse();
        ordersOfSheets();
        changesNothing();
        quotients();
        setsAndLeast();
        scenes();
        list();
        fire();
        cut();
        saved();
        eightCurtains();
        kindsUnderKinds();
        firstParts();
        gladdens();
        tires();
        bears();
        falls();
        rises();
        Due.end();
    }

    private static void callsOfAnObject() {
        Doc.says(0, "An object is used for at most 512 calls after it has been made; what later calls answer"
                + " is free.");
        CurtainHouse x = new CurtainHouse();
        for (int k = 0; k < 511; k++) {
            x.fire(2);
        }
        Due.due("the 512th call, status(-1)", x.status(-1), 511);
        CurtainHouse y = new CurtainHouse();
        for (int k = 0; k < 511; k++) {
            y.go(60);
        }
        Due.due("the 512th call, now(0)", y.now(0), 511 * 60);
        CurtainHouse z = new CurtainHouse();
        for (int k = 0; k < 255; k++) {
            z.image();
            z.sheet(3, 32, 40);
        }
        z.undo();
        Due.due("the 512th call, judge(3)", z.judge(3), 1);
    }

    private static void findings() {
        Doc.says(0, "FINDINGS are answers below -1000000: LOW is -1000001; LOW BEYOND, LOW - 1 FULL, LOW - 2 KIND,"
                + " LOW - 3 NONE, LOW - 4 STATE, LOW - 5 MISSING, LOW - 6 SIZE (in longs, too).");
        CurtainHouse x = Due.house("iron tied;iron;iron;iron;iron;iron;iron;iron");
        x.hold(0, 0);
        Due.due("BEYOND", x.fire(2), -1000001);
        Due.due("FULL", x.curtain(0, 0), -1000002);
        Due.due("KIND", x.as(0, 1), -1000003);
        Due.due("NONE", x.undo(), -1000004);
        Due.due("STATE", x.pull(0, 1), -1000005);
        Due.due("MISSING", x.load(0), -1000006);
        Due.due("SIZE", x.sheet(0, 8, -1), -1000007);
        Due.due("BEYOND in a long", x.odds(0, 18, 0), -1000001L);
        int[] want = {2, 1, 1, 1, 1, 1, 1};
        for (int which = 0; which < 7; which++) {
            Due.due("status(" + which + ")", x.status(which), want[which]);
        }
    }

    private static void ordersOfHouse() {
        Doc.says(0, "Each act tells its findings in the order in which they are asked (that of its words); ");
        CurtainHouse x = Due.house("iron high 0 tied;drop;iron;iron;iron;iron;iron;iron");
        Due.due("curtain: BEYOND, FULL", x.curtain(7, 0), Due.BEYOND);
        Due.due("curtain: BEYOND, FULL", x.curtain(0, 4096), Due.BEYOND);
        Due.due("pull: BEYOND, STATE", x.pull(0, 41), Due.BEYOND);
        Due.due("handsFor: BEYOND, STATE", x.handsFor(0, 61), Due.BEYOND);
        // Nobody could get it up, as it is TIED: STATE is told, not NONE.
        Due.due("handsFor: STATE, NONE", x.handsFor(0, 60), Due.STATE);
        x.fire(1);
        Due.due("moodFor: BEYOND, NONE", x.moodFor(1, 61), Due.BEYOND);
        Due.due("handsFor: BEYOND, NONE", x.handsFor(1, 61), Due.BEYOND);
        Due.due("weary: BEYOND, NONE", x.weary(1, -1), Due.BEYOND);
        Due.due("saved: BEYOND, NONE", x.saved(901), Due.BEYOND);
        Due.due("down: BEYOND, NONE", x.down(8), Due.BEYOND);
        Due.due("up: BEYOND, NONE", x.up(8), Due.BEYOND);
        for (int k = 0; k < 30; k++) {
            x.feed(0, 4);
        }
        Due.due("feed: BEYOND, FULL", x.feed(0, 5), Due.BEYOND);
    }

    private static void ordersOfSheets() {
        Doc.says(0, "Each act tells its findings in the order in which they are asked (that of its words); ");
        CurtainHouse x = Due.house("curtain;iron");
        x.hold(1, 1);
        Due.due("as: BEYOND, MISSING", x.as(0, 7), Due.BEYOND);
        Due.due("as: BEYOND, MISSING", x.as(10, 0), Due.BEYOND);
        Due.due("as: MISSING, KIND", x.as(0, 1), Due.MISSING);
        Due.due("as: BEYOND, KIND", x.as(1, 7), Due.BEYOND);
        Due.due("fits: BEYOND of the sheet, MISSING", x.fits(4, 9), Due.BEYOND);
        Due.due("fits: MISSING, BEYOND of the CURTAIN", x.fits(0, 9), Due.MISSING);
        Due.due("kinds: MISSING, BEYOND of the CURTAIN", x.kinds(0, -1), Due.MISSING);
        Due.due("sheet: BEYOND of the sheet, SIZE", x.sheet(4, 8, -1), Due.BEYOND);
        Due.due("sheet: BEYOND of the bits, SIZE", x.sheet(0, 9, -1), Due.BEYOND);
        Due.due("write: MISSING, BEYOND of the number", x.write(0, -1, 0), Due.MISSING);
        x.sheet(1, 8, 2);
        x.sheet(2, 16, 2);
        Due.due("copy: BEYOND of a sheet, MISSING", x.copy(0, 0, 4, 0, 0), Due.BEYOND);
        Due.due("copy: MISSING, KIND, BEYOND", x.copy(1, 0, 0, 0, -1), Due.MISSING);
        Due.due("copy: MISSING, KIND, BEYOND", x.copy(0, -1, 2, 0, 0), Due.MISSING);
        Due.due("copy: KIND, BEYOND of numbers", x.copy(1, 0, 2, 0, 3), Due.KIND);
        int[] want = {7, 0, 1, 0, 0, 6, 0};
        for (int which = 0; which < 7; which++) {
            Due.due("one finding a call: status(" + which + ")", x.status(which), want[which]);
        }
    }

    private static void changesNothing() {
        Doc.says(0, "one that answers a finding changes nothing but status().");
        new Twins("curtain mood 12 high 5;iron;drop tied;scene 2 7;fire")
                .beyond("fire", x -> x.fire(7)).beyond("scene", x -> x.scene(3, 12))
                .beyond("curtain", x -> x.curtain(0, 4096)).beyond("change", x -> x.change(0, 1, 100))
                .beyond("go", x -> x.go(61)).beyond("evening", x -> x.evening(21))
                .beyond("hold", x -> x.hold(2, 3)).beyond("sheet", x -> x.sheet(0, 8, 41))
                .beyond("write", x -> x.write(0, 3, 9)).beyond("copy", x -> x.copy(0, 1, 0, 0, 3))
                .beyond("feed", x -> x.feed(0x20202020, 5)).beyond("load", x -> x.load(4))
                .refuses("pull", Due.STATE, x -> x.pull(2, 40)).refuses("sheet", Due.SIZE, x -> x.sheet(0, 0, -1))
                .refuses("copy", Due.KIND, x -> x.copy(0, 0, 1, 0, 1))
                .refuses("copy", Due.MISSING, x -> x.copy(0, 0, 3, 0, 1))
                .refuses("write", Due.MISSING, x -> x.write(3, 0, 1))
                .refuses("as", Due.KIND, x -> x.as(2, 1)).refuses("up", Due.NONE, x -> x.up(0)).stayAlike();
    }

    private static void quotients() {
        Doc.says(0, "Quotients are cut.");
        CurtainHouse x = Due.house("gauze;velvet high 0");
        Due.due("half of 4", x.of(0, 7), 2);
        Due.due("half of 2", x.of(1, 10), 1);
        Due.due("a tenth of 39 and 1", x.pull(1, 39), 4);
        Due.due("less a fifth of 39", x.of(1, 1), 53);
    }

    private static void setsAndLeast() {
        Doc.says(0, "Sets are told as bits; of several that would do the least number counts, where nothing else"
                + " is told.");
        CurtainHouse x = Due.house("iron likes 2049 high 0;iron;iron;iron;iron;iron;iron;iron likes 3072 high 0");
        Due.due("those down, the first and the last", x.now(3), 129);
        Due.due("those liked, 0, 10 and 11", x.now(6), 3073);
        Due.due("please(), 11 alone", x.please(), 2048);
        Due.due("sceneFor, all alike", x.sceneFor(3, 60), 0);
        Due.due("kindFor, all alike", x.kindFor(0, 0), 0);
        x.sheet(0, 8, 0);
        Due.due("fits, all of them", x.fits(0, 0), 4095);
        Due.due("kinds, all of them", x.kinds(0, 0), 127);
    }

    private static void scenes() {
        Doc.says(0, "SCENES 0 to 11.");
        CurtainHouse x = Due.house("iron;curtain mood 50 likes 2049 tied;scene 0 11;scene 1 0;scene 2 10");
        x.go(1);
        Due.due("MOOD behind SCENE 11", x.of(1, 1), 55);
        x.go(1);
        Due.due("MOOD behind SCENE 0", x.of(1, 1), 60);
        x.go(1);
        Due.due("MOOD behind SCENE 10", x.of(1, 1), 56);
        Due.due("scene(0, 12)", x.scene(0, 12), Due.BEYOND);
    }

    private static void list() {
        Doc.says(0, "THE LIST: six SCENES, one for BEAT modulo 6 (that of place i: i, at first).");
        for (int i = 0; i < 6; i++) {
            CurtainHouse x = new CurtainHouse();
            x.curtain(0, 1 << i);
            x.change(0, 4, 1);
            int mood = 60;
            for (int beat = 0; beat < 14; beat++) {
                x.go(1);
                mood += beat % 6 == i ? 5 : -4;
                Due.due("MOOD of one that LIKES " + i + " behind BEAT " + beat, x.of(0, 1), mood);
            }
        }
    }

    private static void fire() {
        Doc.says(0, "FIRE or not (1, 0; 0 at first).");
        CurtainHouse x = Due.house("iron");
        Due.due("now(7)", x.now(7), 0);
        x.go(1);
        Due.due("HIGH without FIRE", x.of(0, 3), 20);
        x.fire(1);
        x.go(1);
        Due.due("HIGH with FIRE", x.of(0, 3), 19);
    }

    // The most is out of reach of 512 calls; beyond them the class keeps to it by its own will.
    private static void cut() {
        Doc.says(0, "CUT (how often a scene was; 0 to 99999; 0 at first).");
        CurtainHouse x = Due.house("curtain;curtain;curtain;curtain;curtain;curtain;curtain;curtain");
        Due.due("now(1)", x.now(1), 0);
        int was = 0;
        for (int k = 0; k < 1400; k++) {
            int cut = x.go(60);
            Due.due("CUT grows up to the most", cut > was && cut < 99999 || cut == 99999 ? 1 : 0, 1);
            was = cut;
        }
        Due.due("now(1), the most", x.now(1), 99999);
        Due.due("count(2)", x.count(2), 99999);
        Due.due("cut(100)", x.cut(100), 99999);
        Due.due("tie(20), CUT is as now without any", x.tie(20), 0);
        Due.due("go(60)", x.go(60), 99999);
    }

    private static void saved() {
        Doc.says(0, "SAVED (seats; 0 to 900; 0 at first).");
        CurtainHouse x = Due.house("drop;drop;drop;fire");
        Due.due("now(2)", x.now(2), 0);
        for (int k = 1; k <= 4; k++) {
            x.go(1);
            Due.due("now(2)", x.now(2), Math.min(900, 300 * k));
            for (int c = 0; c < 3; c++) {
                x.change(c, 3, 20);
            }
        }
    }

    private static void eightCurtains() {
        Doc.says(0, "CURTAINS 0, 1, .. (at most 8), of KINDS: ");
        CurtainHouse x = new CurtainHouse();
        for (int c = 0; c < 8; c++) {
            Due.due("its number", x.curtain(0, 0), c);
        }
        Due.due("a 9th", x.curtain(0, 0), Due.FULL);
        Due.due("of the last", x.of(7, 0), 0);
        Due.due("of a 9th", x.of(8, 0), Due.BEYOND);
        // All eight of them go by BEATS.
        x.go(1);
        Due.due("MOODS of all", x.now(5), 8 * 56);
    }

    private static void kindsUnderKinds() {
        Doc.says(0, "0 CURTAIN; 1 VELVET, 2 GAUZE, 5 IRON under CURTAIN; 3 DROP under GAUZE; 4 CLOUD under DROP;"
                + " 6 FRINGE under VELVET; ");
        int[] above = {-1, 0, 0, 2, 3, 0, 1};
        for (int kind = 0; kind < 7; kind++) {
            CurtainHouse x = Due.house(KINDS[kind]);
            Due.due("of(0, 0)", x.of(0, 0), kind);
            x.hold(0, 0);
            int counts = 0;
            for (int at = kind; at >= 0; at = above[at]) {
                counts |= 1 << at;
            }
            for (int asked = 0; asked < 7; asked++) {
                Due.due(KINDS[kind] + " as " + KINDS[asked], x.as(0, asked),
                        (counts >> asked & 1) == 1 ? 0 : Due.KIND);
            }
        }
    }

    private static void firstParts() {
        Doc.says(0, "each with a MOOD (0 to 99; 60 at first), LIKES SCENES (a set, 0 to 4095; none at first),"
                + " HIGH (0 to 20; 20 at first; 0: it is down), TIED or not (1, 0; 0 at first),"
                + " DOWNS (how often it came down; 0 to 9999; 0 at first).");
        int[] first = {60, 0, 20, 0, 0};
        int[] most = {99, 4095, 20, 1, 9999};
        for (int kind = 0; kind < 7; kind++) {
            CurtainHouse x = Due.house(KINDS[kind]);
            for (int what = 1; what <= 5; what++) {
                Due.due("of(0, " + what + ")", x.of(0, what), first[what - 1]);
                Due.due("the most", x.change(0, what, most[what - 1]), first[what - 1]);
                Due.due("one more", x.change(0, what, most[what - 1] + 1), Due.BEYOND);
                Due.due("0", x.change(0, what, 0), most[what - 1]);
                Due.due("-1", x.change(0, what, -1), Due.BEYOND);
            }
            Due.due("HIGH 0: it is down", x.now(3), 1);
            x.change(0, 3, 1);
            Due.due("HIGH 1: it isn't", x.now(3), 0);
        }
    }

    private static void gladdens() {
        Doc.says(0, "GLADDENS (MOOD more by a SCENE that it LIKES): CURTAIN: 5. VELVET: twice a CURTAIN. FRINGE: as a"
                + " VELVET, less 2. GAUZE: as a CURTAIN, less 1. DROP: as a GAUZE. CLOUD: as a DROP, and how many"
                + " SCENES it LIKES. IRON: 0.");
        int[] row = {5, 10, 4, 4, 4, 0, 8};
        for (int kind = 0; kind < 7; kind++) {
            for (int liked = 0; liked <= 12; liked++) {
                CurtainHouse x = new CurtainHouse();
                x.curtain(kind, (1 << liked) - 1);
                int want = row[kind] + (kind == CLOUD ? liked : 0);
                Due.due(KINDS[kind] + " that LIKES " + liked, x.of(0, 6), want);
                if (liked > 0) {
                    x.go(1);
                    Due.due("MOOD of a " + KINDS[kind] + " that LIKES " + liked, x.of(0, 1), 60 + want);
                }
            }
        }
    }

    private static void tires() {
        Doc.says(0, "TIRES (MOOD less by one that it doesn't): CURTAIN: 4. VELVET: as a CURTAIN, and 2. FRINGE: as a"
                + " VELVET, but 0, if it is down. GAUZE: half (cut) of a CURTAIN. DROP: as a GAUZE, and 1, if SCENE"
                + " is odd. CLOUD: as a DROP, less 1 (0 at least). IRON: 0.");
        int[] even = {4, 6, 2, 2, 1, 0, 6};
        int[] odd = {4, 6, 2, 3, 2, 0, 6};
        for (int kind = 0; kind < 7; kind++) {
            for (int scene = 0; scene < 12; scene++) {
                for (int high = 0; high <= 20; high += high == 0 ? 1 : 19) {
                    CurtainHouse x = new CurtainHouse();
                    x.scene(0, scene);
                    x.curtain(kind, 4095 ^ 1 << scene);
                    x.change(0, 3, high);
                    int want = kind == FRINGE && high == 0 ? 0 : scene % 2 == 0 ? even[kind] : odd[kind];
                    String one = KINDS[kind] + " at " + high + " by SCENE " + scene;
                    Due.due(one, x.of(0, 7), want);
                    x.go(1);
                    Due.due("MOOD, " + one, x.of(0, 1), 60 - want);
                }
            }
        }
    }

    private static void bears() {
        Doc.says(0, "BEARS (MOOD below which it falls): CURTAIN: 30. VELVET: as a CURTAIN, and 10. FRINGE: as a VELVET."
                + " GAUZE: as a CURTAIN, less 10. DROP: as a GAUZE. CLOUD: twice a DROP. IRON: 0.");
        int[] row = {30, 40, 20, 20, 40, 0, 40};
        for (int kind = 0; kind < 7; kind++) {
            CurtainHouse x = Due.house(KINDS[kind]);
            Due.due(KINDS[kind], x.of(0, 8), row[kind]);
            x.change(0, 1, row[kind]);
            Due.due(KINDS[kind] + " at just what it BEARS", x.now(4), 0);
            if (row[kind] > 0) {
                x.change(0, 1, row[kind] - 1);
                Due.due(KINDS[kind] + " at 1 less", x.now(4), 1);
            }
        }
    }

    private static void falls() {
        Doc.says(0, "FALLS (so much lower in a BEAT): CURTAIN: 4. VELVET: as a CURTAIN, less 2. FRINGE: as a VELVET,"
                + " and 6, if FIRE is. GAUZE: as a CURTAIN, and 2. DROP: 20. CLOUD: as a DROP, less 15. IRON: 1.");
        int[] row = {4, 2, 6, 20, 5, 1, 2};
        for (int kind = 0; kind < 7; kind++) {
            CurtainHouse x = Due.house(KINDS[kind] + " mood 0");
            Due.due(KINDS[kind] + " without FIRE", x.of(0, 9), row[kind]);
            int want = row[kind] + (kind == FRINGE ? 6 : 0);
            x.fire(1);
            Due.due(KINDS[kind] + " with FIRE", x.of(0, 9), want);
            x.go(1);
            Due.due("HIGH of a " + KINDS[kind] + " with FIRE", x.of(0, 3), 20 - want);
            x.fire(0);
            x.change(0, 1, 0);
            x.change(0, 3, 20);
            x.go(1);
            Due.due("HIGH of a " + KINDS[kind] + " without FIRE", x.of(0, 3), kind == 5 ? 20 : 20 - row[kind]);
        }
    }

    private static void rises() {
        Doc.says(0, "RISES (so much higher in a BEAT): CURTAIN: 2. VELVET: half (cut) of a CURTAIN. FRINGE: as a"
                + " VELVET. GAUZE: as a CURTAIN, and 1. DROP: twice a GAUZE. CLOUD: as a DROP. IRON: 1.");
        int[] row = {2, 1, 3, 6, 6, 1, 1};
        for (int kind = 0; kind < 7; kind++) {
            CurtainHouse x = Due.house(KINDS[kind] + " mood 99 high 0");
            Due.due(KINDS[kind], x.of(0, 10), row[kind]);
            x.go(1);
            Due.due("HIGH of a " + KINDS[kind], x.of(0, 3), row[kind]);
        }
    }
}
