/** The boundary cases of promises 17 to 22, sentence by sentence. */
public final class PlayBoundsTest {
    private static final int MIN = Integer.MIN_VALUE;
    private static final int MAX = Integer.MAX_VALUE;
    private static final int[] NOT_PLANNED = {-1, 61, MIN, MAX};
    private static final String MIXED = "curtain mood 33 likes 9;velvet mood 41 likes 2;gauze mood 20 high 5;"
            + "drop mood 21 likes 16;cloud high 3";

    public static void main(String[] args) {
        sceneForNow();
        sceneForPlaces();
        sceneForSixtyBeats();
        sceneForBeyond();
        kindForEnds();
        kindForSixtyBeats();
        kindForBeyond();
        moodForEnds();
        moodForAsNow();
        moodForBeyond();
        moodForNone();
        handsForEnds();
        handsForSixtyBeats();
        handsForBeyond();
        handsForState();
        handsForNone();
        tieEnds();
        tieTwentyBeats();
        tieBeyond();
        tieNeverNone();
        pleaseNobody();
        pleaseFewest();
        pleaseLeast();
        Due.end();
    }

    private static void sceneForNow() {
        Doc.says(17, "The SCENE that place i of THE LIST must tell, so that CUT is least behind n (0 to 60) BEATS.");
        // It comes down unless it is glad; then of several SCENES the least number counts.
        Due.due("the last SCENE alone", Due.house("drop mood 20 likes 2048").sceneFor(0, 1), 11);
        Due.due("the first SCENE alone", Due.house("drop mood 20 likes 1;scene 0 5").sceneFor(0, 1), 0);
        Due.due("of several the least", Due.house("drop mood 20 likes 3088").sceneFor(0, 1), 4);
        Due.due("none helps", Due.house("drop mood 0 likes 4095;scene 0 7").sceneFor(0, 1), 0);
        Due.due("no BEAT", Due.house("drop mood 20 likes 2048").sceneFor(0, 0), 0);
        Due.due("nobody", new CurtainHouse().sceneFor(5, 60), 0);
        CurtainHouse x = Due.house("drop mood 20 likes 2048");
        x.sceneFor(0, 60);
        Due.due("THE LIST stays", x.listed(0), 0);
        Due.due("CUT stays", x.now(1), 0);
        Due.due("MOOD stays", x.of(0, 1), 20);
        Due.due("BEAT stays", x.now(0), 0);
    }

    private static void sceneForPlaces() {
        Doc.says(17, "The SCENE that place i of THE LIST must tell");
        // MOOD is 21 behind five BEATS: only SCENE 11 in place 5 keeps it up behind the sixth.
        CurtainHouse x = Due.house("drop mood 33 likes 2048");
        Due.due("sceneFor(5, 5), not there yet", x.sceneFor(5, 5), 0);
        Due.due("sceneFor(5, 6)", x.sceneFor(5, 6), 11);
        x.go(5);
        Due.due("sceneFor(5, 1), this BEAT's place", x.sceneFor(5, 1), 11);
        Due.due("sceneFor(0, 1), the next BEAT's place", x.sceneFor(0, 1), 0);
        // 21 again behind five BEATS, by SCENES 5, 0, 1, 2, 3.
        x.change(0, 1, 34);
        Due.due("sceneFor(4, 5)", x.sceneFor(4, 5), 0);
        Due.due("sceneFor(4, 6), the last of a round", x.sceneFor(4, 6), 11);
    }

    /** What trying all twelve SCENES out, by calls that change, comes to. */
    private static int triedScene(CurtainHouse x, int i, int n) {
        x.image();
        int best = -1;
        int least = MAX;
        for (int scene = 0; scene < 12; scene++) {
            x.scene(i, scene);
            int cut = x.go(n);
            best = cut < least ? scene : best;
            least = Math.min(least, cut);
            x.undo();
        }
        return best;
    }

    private static void sceneForSixtyBeats() {
        Doc.says(17, "behind n (0 to 60) BEATS.");
        for (int i = 0; i < 6; i++) {
            CurtainHouse x = Due.house(MIXED);
            Due.due("sceneFor(" + i + ", 60)", x.sceneFor(i, 60), triedScene(x, i, 60));
        }
        // A SCENE behind the last, which nobody LIKES, would cut less than all twelve here.
        CurtainHouse x = Due.house("drop mood 0 likes 1919 high 0;scene 0 11;scene 1 2;scene 2 5;scene 4 0;scene 5 3");
        Due.due("sceneFor(4, 27), one of the twelve", x.sceneFor(4, 27), triedScene(x, 4, 27));
    }

    private static void sceneForBeyond() {
        Doc.says(17, "BEYOND.");
        Twins t = new Twins("curtain;drop");
        for (int k : NOT_PLANNED) {
            t.beyond("sceneFor(0, " + k + ")", x -> x.sceneFor(0, k));
        }
        for (int k : new int[] {-1, 6, MIN, MAX}) {
            t.beyond("sceneFor(" + k + ", 0)", x -> x.sceneFor(k, 0));
        }
        t.stayAlike();
    }

    private static void kindForEnds() {
        Doc.says(18, "The KIND of which a CURTAIN must be, so that its MOOD is greatest behind n (0 to 60) BEATS.");
        Due.due("no BEAT, all alike", Due.house("iron").kindFor(0, 0), 0);
        // A FRINGE that is down is glad by SCENE 0 and doesn't tire by the others.
        Due.due("the last KIND", Due.house("curtain mood 0 likes 1 high 0").kindFor(0, 6), 6);
        Due.due("a VELVET ahead of all", Due.house("iron likes 1").kindFor(0, 1), 1);
        // It falls behind SCENE 0 at once, and has 25 more by that.
        Due.due("a DROP ahead of all", Due.house("iron mood 0 likes 1").kindFor(0, 1), 3);
        Due.due("an IRON ahead of all that tire", Due.house("curtain").kindFor(0, 1), 5);
        // 99 with a VELVET as with a FRINGE or a CLOUD: the least counts, a CURTAIN has but 96.
        Due.due("of several the least", Due.house("fringe mood 91 likes 4095").kindFor(0, 1), 1);
        Due.due("of several the least, all at 99", Due.house("fringe mood 99 likes 4095").kindFor(0, 1), 0);
        CurtainHouse x = Due.house("iron;curtain mood 0 likes 1 high 0");
        Due.due("kindFor(1, 6)", x.kindFor(1, 6), 6);
        Due.due("KIND stays", x.of(1, 0), 0);
        Due.due("MOOD stays", x.of(1, 1), 0);
        Due.due("BEAT stays", x.now(0), 0);
    }

    private static void kindForSixtyBeats() {
        Doc.says(18, "behind n (0 to 60) BEATS.");
        for (int c = 0; c < 5; c++) {
            CurtainHouse x = Due.house(MIXED);
            int asked = x.kindFor(c, 60);
            x.image();
            int best = -1;
            int greatest = -1;
            for (int kind = 0; kind < 7; kind++) {
                x.change(c, 0, kind);
                x.go(60);
                best = x.of(c, 1) > greatest ? kind : best;
                greatest = Math.max(greatest, x.of(c, 1));
                x.undo();
            }
            Due.due("kindFor(" + c + ", 60)", asked, best);
        }
    }

    private static void kindForBeyond() {
        Doc.says(18, "BEYOND.");
        Twins t = new Twins("curtain;drop");
        for (int k : NOT_PLANNED) {
            t.beyond("kindFor(0, " + k + ")", x -> x.kindFor(0, k));
        }
        for (int k : new int[] {-1, 2, MIN, MAX}) {
            t.beyond("kindFor(" + k + ", 0)", x -> x.kindFor(k, 0));
        }
        t.stayAlike();
        new Twins("").beyond("no CURTAINS", x -> x.kindFor(0, 0)).stayAlike();
    }

    private static int downsBehind(String text, int mood, int n) {
        CurtainHouse x = Due.house(text);
        x.change(0, 1, mood);
        x.go(n);
        return x.of(0, 5);
    }

    private static void moodForEnds() {
        Doc.says(19, "The least MOOD with which DOWNS of a CURTAIN are as now behind n (0 to 60) BEATS.");
        Due.due("no BEAT", Due.house("drop").moodFor(0, 0), 0);
        Due.due("an IRON, 60 BEATS", Due.house("iron").moodFor(0, 60), 0);
        Due.due("a DROP, a BEAT", Due.house("drop").moodFor(0, 1), 22);
        String late = "drop likes 8";
        Due.due("the greatest MOOD", Due.house(late).moodFor(0, 59), 99);
        Due.due("DOWNS with 98", downsBehind(late, 98, 59) > 0 ? 1 : 0, 1);
        Due.due("DOWNS with 99", downsBehind(late, 99, 59), 0);
        Due.due("60 BEATS, one that is down", Due.house("velvet high 0").moodFor(0, 60), 0);
        CurtainHouse x = Due.house("iron;drop mood 5");
        Due.due("moodFor(1, 1)", x.moodFor(1, 1), 22);
        Due.due("MOOD stays", x.of(1, 1), 5);
        Due.due("DOWNS stay", x.of(1, 5), 0);
    }

    private static void moodForAsNow() {
        Doc.says(19, "DOWNS of a CURTAIN are as now");
        CurtainHouse x = Due.house("drop");
        x.change(0, 5, 7);
        Due.due("as now, not 0", x.moodFor(0, 1), 22);
        x.change(0, 5, 9998);
        Due.due("one less than the most", x.moodFor(0, 1), 22);
        x.change(0, 5, 9999);
        Due.due("9999 at most, so they are as now", x.moodFor(0, 1), 0);
        x.change(0, 5, 0);
        x.change(0, 4, 1);
        Due.due("TIED", x.moodFor(0, 60), 0);
    }

    private static void moodForBeyond() {
        Doc.says(19, "BEYOND.");
        Twins t = new Twins("curtain;drop");
        for (int k : NOT_PLANNED) {
            t.beyond("moodFor(0, " + k + ")", x -> x.moodFor(0, k));
        }
        for (int k : new int[] {-1, 2, MIN, MAX}) {
            t.beyond("moodFor(" + k + ", 0)", x -> x.moodFor(k, 0));
        }
        t.stayAlike();
        new Twins("").beyond("no CURTAINS", x -> x.moodFor(0, 0)).stayAlike();
    }

    private static void moodForNone() {
        Doc.says(19, "NONE.");
        Due.due("DOWNS with 99", downsBehind("drop likes 8", 99, 60) > 0 ? 1 : 0, 1);
        new Twins("drop likes 8").refuses("moodFor(0, 60)", Due.NONE, x -> x.moodFor(0, 60)).stayAlike();
        new Twins("fire;drop").refuses("in a FIRE", Due.NONE, x -> x.moodFor(0, 1)).stayAlike();
    }

    private static void handsForEnds() {
        Doc.says(20, "The fewest HANDS (1 to 40) who must pull a CURTAIN now for it not to be down behind n (0 to 60)"
                + " BEATS.");
        Due.due("none needed, but 1 at least", Due.house("iron").handsFor(0, 0), 1);
        Due.due("one by what it RISES", Due.house("iron mood 0 high 0").handsFor(0, 0), 1);
        Due.due("60 BEATS", Due.house("iron high 0").handsFor(0, 60), 1);
        // 3 and 4 higher, 6 lower by the BEAT.
        Due.due("all 40", Due.house("fire;gauze high 0").handsFor(0, 1), 40);
        Due.due("30", Due.house("fire;gauze high 1").handsFor(0, 1), 30);
        Due.due("10", Due.house("fire;gauze high 3").handsFor(0, 1), 10);
        CurtainHouse x = Due.house("iron;fire;gauze high 0");
        Due.due("handsFor(1, 1)", x.handsFor(1, 1), 40);
        Due.due("HIGH stays", x.of(1, 3), 0);
        Due.due("MOOD stays", x.of(1, 1), 60);
        Due.due("BEAT stays", x.now(0), 0);
    }

    private static void handsForSixtyBeats() {
        Doc.says(20, "behind n (0 to 60) BEATS.");
        for (int c = 0; c < 5; c++) {
            for (int n : new int[] {1, 5, 60}) {
                CurtainHouse x = Due.house(MIXED);
                int asked = x.handsFor(c, n);
                x.image();
                int fewest = Due.NONE;
                for (int hands = 40; hands >= 1; hands--) {
                    x.pull(c, hands);
                    x.go(n);
                    fewest = x.of(c, 3) > 0 ? hands : fewest;
                    x.undo();
                }
                Due.due("handsFor(" + c + ", " + n + ")", asked, fewest);
            }
        }
    }

    private static void handsForBeyond() {
        Doc.says(20, "BEYOND.");
        // The second one is TIED: BEYOND is told ahead of STATE.
        Twins t = new Twins("curtain;drop tied");
        for (int k : NOT_PLANNED) {
            t.beyond("handsFor(0, " + k + ")", x -> x.handsFor(0, k));
            t.beyond("handsFor(1, " + k + ")", x -> x.handsFor(1, k));
        }
        for (int k : new int[] {-1, 2, MIN, MAX}) {
            t.beyond("handsFor(" + k + ", 0)", x -> x.handsFor(k, 0));
        }
        t.stayAlike();
        new Twins("").beyond("no CURTAINS", x -> x.handsFor(0, 0)).stayAlike();
    }

    private static void handsForState() {
        Doc.says(20, "STATE: it is TIED.");
        new Twins("iron tied;iron high 0 tied").refuses("up", Due.STATE, x -> x.handsFor(0, 0))
                .refuses("down: ahead of NONE", Due.STATE, x -> x.handsFor(1, 60)).stayAlike();
    }

    private static void handsForNone() {
        Doc.says(20, "NONE.");
        new Twins("fire;gauze high 0;drop").refuses("two BEATS", Due.NONE, x -> x.handsFor(0, 2))
                .refuses("a DROP", Due.NONE, x -> x.handsFor(1, 1))
                .refuses("60 BEATS", Due.NONE, x -> x.handsFor(0, 60)).stayAlike();
    }

    private static void tieEnds() {
        Doc.says(21, "The set of fewest CURTAINS such that, if these are TIED, too, from now on, CUT is as now behind n"
                + " (0 to 20) BEATS; of several the least.");
        CurtainHouse x = Due.house("drop mood 0;iron;iron;drop mood 0 tied;iron;iron;iron;drop mood 0");
        Due.due("tie(0)", x.tie(0), 0);
        Due.due("tie(1), the first and the last, not one that is TIED", x.tie(1), 129);
        Due.due("TIED stays", x.of(0, 4) + x.of(7, 4), 0);
        Due.due("CUT stays", x.now(1), 0);
        x.go(1);
        Due.due("CUT", x.now(1), 2);
        Due.due("tie(1), as now, not 0", x.tie(1), 0);
        x.fire(1);
        Due.due("tie(20), a FIRE cuts nothing", x.tie(20), 0);
        Due.due("tie(20), nobody", new CurtainHouse().tie(20), 0);
        Due.due("tie(20), one that is down", Due.house("velvet mood 0 high 0").tie(20), 0);
    }

    private static void tieTwentyBeats() {
        Doc.says(21, "behind n (0 to 20) BEATS");
        // 50 less by 20 BEATS: 19 with the first one, which falls by the 20th, 20 with the second.
        CurtainHouse x = Due.house("drop mood 69;drop mood 70");
        Due.due("tie(19)", x.tie(19), 0);
        Due.due("tie(20)", x.tie(20), 1);
        x.go(1);
        Due.due("tie(20), a BEAT on", x.tie(20), 3);
    }

    private static void tieBeyond() {
        Doc.says(21, "BEYOND.");
        new Twins(MIXED).beyond("tie(-1)", x -> x.tie(-1)).beyond("tie(21)", x -> x.tie(21))
                .beyond("tie(MIN)", x -> x.tie(MIN)).beyond("tie(MAX)", x -> x.tie(MAX)).stayAlike();
    }

    // A TIED one never comes down, so that to tie all of them always does.
    private static void tieNeverNone() {
        Doc.says(21, "NONE.");
        CurtainHouse x = Due.house("drop mood 0;drop mood 0;drop mood 0;drop mood 0;drop mood 0");
        for (int c = 5; c < 8; c++) {
            x.curtain(3, 0);
            x.change(c, 1, 0);
        }
        Due.due("tie(1), all of them", x.tie(1), 255);
        Due.due("tie(20), all of them", x.tie(20), 255);
        Due.due("status(3)", x.status(3), 0);
    }

    private static CurtainHouse likers(int... likes) {
        CurtainHouse x = new CurtainHouse();
        for (int set : likes) {
            x.curtain(0, set);
        }
        return x;
    }

    private static void pleaseNobody() {
        Doc.says(22, "each CURTAIN that LIKES any LIKES one");
        Due.due("nobody", likers().please(), 0);
        Due.due("one that LIKES none", likers(0).please(), 0);
        Due.due("eight that LIKE none", likers(0, 0, 0, 0, 0, 0, 0, 0).please(), 0);
        Due.due("one that does among those", likers(0, 0, 64, 0, 0, 0, 0, 0).please(), 64);
        Due.due("the last that does among those", likers(0, 0, 0, 0, 0, 0, 0, 2048).please(), 2048);
        CurtainHouse x = likers(0, 6, 12);
        x.please();
        Due.due("nothing changes", x.of(0, 2) * 10000 + x.of(1, 2) * 100 + x.of(2, 2), 612);
    }

    private static void pleaseFewest() {
        Doc.says(22, "The set of fewest SCENES of which each CURTAIN that LIKES any LIKES one; ");
        Due.due("the last SCENE for all", likers(2049, 2050, 2052, 2056).please(), 2048);
        Due.due("one each, eight", likers(16, 32, 64, 128, 256, 512, 1024, 2048).please(), 4080);
        Due.due("fewest, though the number is greater", likers(2049, 2050).please(), 2048);
        Due.due("two, not three", likers(1 | 512, 2 | 512, 4 | 1024).please(), 4 | 512);
        Due.due("all LIKE all", likers(4095, 4095, 4095, 4095, 4095, 4095, 4095, 4095).please(), 1);
    }

    private static void pleaseLeast() {
        Doc.says(22, "of several the least.");
        Due.due("either of two", likers(6).please(), 2);
        Due.due("one for both, of two", likers(24, 56).please(), 8);
        Due.due("pairs", likers(6, 24).please(), 10);
        Due.due("pairs, told in another order", likers(24, 6).please(), 10);
    }
}
