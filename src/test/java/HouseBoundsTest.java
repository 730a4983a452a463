/** The boundary cases of promises 1 to 8, sentence by sentence. */
public final class HouseBoundsTest {
    private static final int MIN = Integer.MIN_VALUE;
    private static final int MAX = Integer.MAX_VALUE;
    private static final String EIGHT = "iron;drop;gauze;velvet;cloud;fringe;curtain;iron";

    public static void main(String[] args) {
        newObject();
        newObjectBesideAUsedOne();
        fireBecomes();
        fireBeyond();
        sceneTells();
        sceneBeyond();
        listedTells();
        listedBeyond();
        curtainNumbers();
        curtainBeyond();
        curtainFull();
        ofTells();
        ofBeyond();
        changeBecomes();
        changeBeyond();
        pullHigher();
        pullTwentyAtMost();
        pullMoodLess();
        pullTells();
        pullBeyond();
        pullState();
        Due.end();
    }

    private static void isNew(CurtainHouse x) {
        for (int what = 0; what < 8; what++) {
            Due.due("now(" + what + ")", x.now(what), 0);
            Due.due("count(" + what + ")", x.count(what), what == 6 ? 1 : 0);
        }
        for (int i = 0; i < 6; i++) {
            Due.due("listed(" + i + ")", x.listed(i), i);
        }
        for (int which = -1; which < 7; which++) {
            Due.due("status(" + which + ")", x.status(which), 0);
        }
        Due.due("wipe()", x.wipe(), 0);
        Due.due("text(), empty", x.text(), -1);
        Due.due("tear()", x.tear(), 0);
        Due.due("undo()", x.undo(), Due.NONE);
        Due.due("of(0, 0), no CURTAINS", x.of(0, 0), Due.BEYOND);
        for (int s = 0; s < 4; s++) {
            Due.due("load(" + s + ")", x.load(s), Due.MISSING);
        }
        for (int spot = 0; spot < 10; spot++) {
            Due.due("as(" + spot + ", 0)", x.as(spot, 0), Due.MISSING);
        }
        Due.due("seed(0), z was 1", x.seed(0), 1);
    }

    private static void newObject() {
        Doc.says(1, "All as at first; no CURTAINS; THE TAPE is empty, no image is kept.");
        isNew(new CurtainHouse());
    }

    private static void newObjectBesideAUsedOne() {
        Doc.says(1, "All as at first");
        CurtainHouse used = Due.house("fire;scene 0 7;drop;iron tied");
        used.hold(0, 1);
        used.sheet(0, 8, 3);
        used.image();
        used.evening(20);
        used.feed(0, 4);
        used.go(0);
        isNew(new CurtainHouse());
    }

    private static void fireBecomes() {
        Doc.says(2, "FIRE becomes v (0, 1): what it was.");
        CurtainHouse x = new CurtainHouse();
        int[] told = {0, 1, 1, 0, 0};
        int was = 0;
        for (int v : told) {
            Due.due("fire(" + v + ")", x.fire(v), was);
            Due.due("now(7)", x.now(7), v);
            was = v;
        }
    }

    private static void fireBeyond() {
        Doc.says(2, "BEYOND.");
        for (String text : new String[] {"curtain;fire", "curtain;out"}) {
            new Twins(text).beyond("fire(-1)", x -> x.fire(-1)).beyond("fire(2)", x -> x.fire(2))
                    .beyond("fire(MIN)", x -> x.fire(MIN)).beyond("fire(MAX)", x -> x.fire(MAX))
                    .stayAlike();
        }
    }

    private static void sceneTells() {
        Doc.says(3, "THE LIST tells in place i (0 to 5) a SCENE: which it was.");
        CurtainHouse x = new CurtainHouse();
        for (int i = 0; i < 6; i++) {
            Due.due("scene(" + i + ", 11)", x.scene(i, 11), i);
            Due.due("scene(" + i + ", 0)", x.scene(i, 0), 11);
            Due.due("scene(" + i + ", again)", x.scene(i, 11 - i), 0);
        }
        for (int i = 0; i < 6; i++) {
            Due.due("listed(" + i + ")", x.listed(i), 11 - i);
        }
    }

    private static void sceneBeyond() {
        Doc.says(3, "BEYOND.");
        new Twins("curtain").beyond("scene(-1, 0)", x -> x.scene(-1, 0)).beyond("scene(6, 0)", x -> x.scene(6, 0))
                .beyond("scene(0, -1)", x -> x.scene(0, -1)).beyond("scene(0, 12)", x -> x.scene(0, 12))
                .beyond("scene(5, 12)", x -> x.scene(5, 12)).beyond("scene(6, 12)", x -> x.scene(6, 12))
                .beyond("scene(MIN, 0)", x -> x.scene(MIN, 0)).beyond("scene(MAX, 0)", x -> x.scene(MAX, 0))
                .beyond("scene(0, MIN)", x -> x.scene(0, MIN)).beyond("scene(0, MAX)", x -> x.scene(0, MAX))
                .stayAlike();
    }

    private static void listedTells() {
        Doc.says(4, "The SCENE in a place of THE LIST.");
        CurtainHouse x = Due.house("scene 0 11;scene 5 6");
        Due.due("listed(0), the first place", x.listed(0), 11);
        Due.due("listed(1)", x.listed(1), 1);
        Due.due("listed(4)", x.listed(4), 4);
        Due.due("listed(5), the last place", x.listed(5), 6);
        x.go(7);
        Due.due("listed(0), places don't move with BEATS", x.listed(0), 11);
    }

    private static void listedBeyond() {
        Doc.says(4, "BEYOND.");
        new Twins("curtain").beyond("listed(-1)", x -> x.listed(-1)).beyond("listed(6)", x -> x.listed(6))
                .beyond("listed(MIN)", x -> x.listed(MIN)).beyond("listed(MAX)", x -> x.listed(MAX)).stayAlike();
    }

    private static void curtainNumbers() {
        Doc.says(5, "A new CURTAIN that LIKES SCENES (a set): its number.");
        CurtainHouse x = new CurtainHouse();
        for (int c = 0; c < 8; c++) {
            int likes = c % 2 == 0 ? 0 : 4095;
            Due.due("curtain(" + c % 7 + ", " + likes + ")", x.curtain(c % 7, likes), c);
            int[] row = {c % 7, 60, likes, 20, 0, 0};
            for (int what = 0; what < 6; what++) {
                Due.due("of(" + c + ", " + what + ")", x.of(c, what), row[what]);
            }
        }
        Due.due("count(1)", x.count(1), 8);
    }

    private static void curtainBeyond() {
        Doc.says(5, "BEYOND.");
        for (String text : new String[] {"", "curtain", EIGHT}) {
            // The house that is full tells BEYOND ahead of FULL.
            new Twins(text).beyond("curtain(-1, 0)", x -> x.curtain(-1, 0))
                    .beyond("curtain(7, 0)", x -> x.curtain(7, 0))
                    .beyond("curtain(0, -1)", x -> x.curtain(0, -1))
                    .beyond("curtain(0, 4096)", x -> x.curtain(0, 4096))
                    .beyond("curtain(MIN, 0)", x -> x.curtain(MIN, 0))
                    .beyond("curtain(MAX, 0)", x -> x.curtain(MAX, 0))
                    .beyond("curtain(6, MIN)", x -> x.curtain(6, MIN))
                    .beyond("curtain(6, MAX)", x -> x.curtain(6, MAX)).stayAlike();
        }
    }

    private static void curtainFull() {
        Doc.says(5, "FULL.");
        new Twins(EIGHT).refuses("a 9th", Due.FULL, x -> x.curtain(0, 0))
                .refuses("a 9th again", Due.FULL, x -> x.curtain(6, 4095)).stayAlike();
        CurtainHouse x = new CurtainHouse();
        x.image();
        for (int c = 0; c < 8; c++) {
            x.curtain(0, 0);
        }
        Due.due("a 9th", x.curtain(0, 0), Due.FULL);
        x.undo();
        Due.due("the first again, behind undo()", x.curtain(0, 0), 0);
    }

    private static void ofTells() {
        Doc.says(6, "Of a CURTAIN: what 0 KIND, 1 MOOD, 2 LIKES, 3 HIGH, 4 TIED, 5 DOWNS, 6 GLADDENS,"
                + " 7 TIRES (by the SCENE of this BEAT), 8 BEARS, 9 FALLS, 10 RISES.");
        CurtainHouse x = Due.house("cloud mood 0 likes 4095 high 0 tied;velvet mood 99;iron;iron;iron;iron;iron;"
                + "drop likes 2 high 20;scene 0 2");
        x.change(7, 5, 9999);
        int[] first = {4, 0, 4095, 0, 1, 0, 16, 1, 40, 5, 6};
        int[] second = {1, 99, 0, 20, 0, 0, 10, 6, 40, 2, 1};
        int[] last = {3, 60, 2, 20, 0, 9999, 4, 2, 20, 20, 6};
        for (int what = 0; what <= 10; what++) {
            Due.due("of(0, " + what + ")", x.of(0, what), first[what]);
            Due.due("of(1, " + what + ")", x.of(1, what), second[what]);
            Due.due("of(7, " + what + ")", x.of(7, what), last[what]);
        }
        // The SCENE of this BEAT is that of place 5, then that of place 0 again: SCENES 5, 2.
        x.go(5);
        Due.due("of(7, 7), by SCENE 5", x.of(7, 7), 3);
        x.go(1);
        Due.due("of(7, 7), by SCENE 2 again", x.of(7, 7), 2);
    }

    private static void ofBeyond() {
        Doc.says(6, "BEYOND.");
        new Twins("").beyond("of(0, 0), no CURTAINS", x -> x.of(0, 0)).stayAlike();
        new Twins("curtain;drop").beyond("of(-1, 0)", x -> x.of(-1, 0)).beyond("of(2, 0)", x -> x.of(2, 0))
                .beyond("of(7, 0)", x -> x.of(7, 0)).beyond("of(MIN, 0)", x -> x.of(MIN, 0))
                .beyond("of(MAX, 0)", x -> x.of(MAX, 0)).beyond("of(0, -1)", x -> x.of(0, -1))
                .beyond("of(0, 11)", x -> x.of(0, 11)).beyond("of(1, MIN)", x -> x.of(1, MIN))
                .beyond("of(1, MAX)", x -> x.of(1, MAX)).stayAlike();
        new Twins(EIGHT).beyond("of(8, 0)", x -> x.of(8, 0)).stayAlike();
    }

    private static void changeBecomes() {
        Doc.says(7, "KIND (what 0), MOOD (1), LIKES (2), HIGH (3), TIED (4), DOWNS (5) of a CURTAIN becomes v:"
                + " what it was.");
        int[] first = {5, 60, 0, 20, 0, 0};
        int[] most = {6, 99, 4095, 20, 1, 9999};
        for (int what = 0; what < 6; what++) {
            CurtainHouse x = Due.house("iron;iron;iron");
            Due.due("change to the most, " + what, x.change(1, what, most[what]), first[what]);
            Due.due("change to the most again, " + what, x.change(1, what, most[what]), most[what]);
            Due.due("of it", x.of(1, what), most[what]);
            Due.due("change to 0, " + what, x.change(1, what, 0), most[what]);
            Due.due("change to 1, " + what, x.change(1, what, 1), 0);
            for (int other = 0; other < 6; other++) {
                Due.due("of the one ahead", x.of(0, other), first[other]);
                Due.due("of it", x.of(1, other), other == what ? 1 : first[other]);
                Due.due("of the one behind", x.of(2, other), first[other]);
            }
            Due.due("CUT, SAVED: HIGH 0 by a change is no coming down", x.now(1) + x.now(2), 0);
        }
    }

    private static void changeBeyond() {
        Doc.says(7, "BEYOND.");
        int[] most = {6, 99, 4095, 20, 1, 9999};
        Twins t = new Twins("curtain;drop");
        for (int k = 0; k < 6; k++) {
            int what = k;
            t.beyond("one more than the most, " + k, x -> x.change(1, what, most[what] + 1));
            t.beyond("-1, " + k, x -> x.change(1, what, -1));
            t.beyond("MIN, " + k, x -> x.change(1, what, MIN));
            t.beyond("MAX, " + k, x -> x.change(1, what, MAX));
        }
        t.beyond("what -1", x -> x.change(0, -1, 0)).beyond("what 6", x -> x.change(0, 6, 0))
                .beyond("what MIN", x -> x.change(0, MIN, 0)).beyond("what MAX", x -> x.change(0, MAX, 0))
                .beyond("curtain -1", x -> x.change(-1, 0, 0)).beyond("curtain 2", x -> x.change(2, 0, 0))
                .beyond("curtain MIN", x -> x.change(MIN, 0, 0)).beyond("curtain MAX", x -> x.change(MAX, 0, 0))
                .stayAlike();
        new Twins("").beyond("no CURTAINS", x -> x.change(0, 1, 3)).stayAlike();
    }

    private static int pulled(String text, int hands) {
        return Due.house(text).pull(0, hands);
    }

    private static int moodPulled(String text, int hands) {
        CurtainHouse x = Due.house(text);
        x.pull(0, hands);
        return x.of(0, 1);
    }

    private static void pullHigher() {
        Doc.says(8, "Stage hands (1 to 40) pull a CURTAIN: it is a tenth (cut) of HANDS and what it RISES"
                + " together higher (20 at most), ");
        int[][] rows = {{1, 0}, {9, 0}, {10, 1}, {19, 1}, {20, 2}, {29, 2}, {30, 3}, {39, 3}, {40, 4}};
        int[] rises = {2, 1, 3, 6, 6, 1, 1};
        String[] kinds = {"curtain", "velvet", "gauze", "drop", "cloud", "iron", "fringe"};
        for (int[] row : rows) {
            for (int kind = 0; kind < 7; kind++) {
                Due.due(kinds[kind] + " by " + row[0], pulled(kinds[kind] + " high 0", row[0]), row[1] + rises[kind]);
            }
        }
        Due.due("in a FIRE as well", pulled("fringe high 3;fire", 10), 5);
    }

    private static void pullTwentyAtMost() {
        Doc.says(8, "together higher (20 at most)");
        Due.due("to 19", pulled("curtain high 13", 40), 19);
        Due.due("to 20", pulled("curtain high 14", 40), 20);
        Due.due("not to 21", pulled("curtain high 15", 40), 20);
        Due.due("from 20", pulled("drop", 40), 20);
    }

    private static void pullMoodLess() {
        Doc.says(8, "MOOD a fifth (cut) of HANDS less (0 at least): HIGH then.");
        int[][] rows = {{1, 0}, {4, 0}, {5, 1}, {9, 1}, {10, 2}, {39, 7}, {40, 8}};
        for (int[] row : rows) {
            Due.due("MOOD by " + row[0], moodPulled("curtain mood 50", row[0]), 50 - row[1]);
        }
        Due.due("to 1", moodPulled("curtain mood 9", 40), 1);
        Due.due("to 0", moodPulled("curtain mood 8", 40), 0);
        Due.due("not to -1", moodPulled("curtain mood 7", 40), 0);
        Due.due("from 0", moodPulled("curtain mood 0", 40), 0);
        Due.due("an IRON, too", moodPulled("iron mood 3", 15), 0);
    }

    private static void pullTells() {
        Doc.says(8, "HIGH then.");
        CurtainHouse x = Due.house("iron;velvet mood 0 high 0");
        Due.due("pull(1, 25)", x.pull(1, 25), 3);
        Due.due("HIGH", x.of(1, 3), 3);
        Due.due("pull(1, 25) again", x.pull(1, 25), 6);
        Due.due("no BEAT goes by", x.now(0), 0);
        Due.due("DOWNS", x.of(1, 5), 0);
        Due.due("the other one's HIGH and MOOD", x.of(0, 3) + x.of(0, 1), 80);
    }

    private static void pullBeyond() {
        Doc.says(8, "BEYOND.");
        // The second one is TIED: BEYOND is told ahead of STATE.
        new Twins("curtain high 3;curtain high 3 tied").beyond("pull(0, 0)", x -> x.pull(0, 0))
                .beyond("pull(0, 41)", x -> x.pull(0, 41)).beyond("pull(0, -1)", x -> x.pull(0, -1))
                .beyond("pull(0, MIN)", x -> x.pull(0, MIN)).beyond("pull(0, MAX)", x -> x.pull(0, MAX))
                .beyond("pull(1, 0)", x -> x.pull(1, 0)).beyond("pull(1, 41)", x -> x.pull(1, 41))
                .beyond("pull(-1, 1)", x -> x.pull(-1, 1)).beyond("pull(2, 1)", x -> x.pull(2, 1))
                .beyond("pull(MIN, 1)", x -> x.pull(MIN, 1)).beyond("pull(MAX, 1)", x -> x.pull(MAX, 1))
                .stayAlike();
        new Twins("").beyond("no CURTAINS", x -> x.pull(0, 1)).stayAlike();
    }

    private static void pullState() {
        Doc.says(8, "STATE: it is TIED.");
        new Twins("curtain;drop high 0 tied").refuses("pull(1, 1)", Due.STATE, x -> x.pull(1, 1))
                .refuses("pull(1, 40)", Due.STATE, x -> x.pull(1, 40)).stayAlike();
        CurtainHouse x = Due.house("drop high 0 tied");
        x.change(0, 4, 0);
        Due.due("not TIED any more", x.pull(0, 1), 6);
        x.change(0, 4, 1);
        Due.due("TIED again", x.pull(0, 1), Due.STATE);
    }
}
