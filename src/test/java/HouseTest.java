/** Promises 1 to 8: a new object, fire, scene, listed, curtain, of, change, pull. */
public final class HouseTest {
    private static final String[] KIND_WORDS =
            {"curtain", "velvet", "gauze", "drop", "cloud", "iron", "fringe"};

    public static void main(String[] args) {
        newObject();
        fire();
        sceneAndListed();
        curtain();
        ofWrong();
        ofKinds();
        ofWhatDepends();
        change();
        pull();
        Due.end();
    }

    private static void newObject() {
        CurtainHouse x = new CurtainHouse();
        for (int i = 0; i < 6; i++) {
            Due.due("new: listed(" + i + ")", x.listed(i), i);
        }
        for (int what = 0; what < 8; what++) {
            Due.due("new: now(" + what + ")", x.now(what), 0);
            Due.due("new: count(" + what + ")", x.count(what), what == 6 ? 1 : 0);
        }
        Due.due("new: status(-1)", x.status(-1), 0);
        Due.due("new: wipe()", x.wipe(), 0);
        Due.due("new: tear()", x.tear(), 0);
        Due.due("new: undo()", x.undo(), Due.NONE);
        for (int s = 0; s < 4; s++) {
            Due.due("new: judge(" + s + ")", x.judge(s), Due.MISSING);
        }
        for (int spot = 0; spot < 10; spot++) {
            Due.due("new: as(" + spot + ", 0)", x.as(spot, 0), Due.MISSING);
        }
    }

    private static void fire() {
        CurtainHouse x = new CurtainHouse();
        Due.due("fire(1)", x.fire(1), 0);
        Due.due("fire(2)", x.fire(2), Due.BEYOND);
        Due.due("fire(-1)", x.fire(-1), Due.BEYOND);
        Due.due("now(7)", x.now(7), 1);
        Due.due("fire(0)", x.fire(0), 1);
        Due.due("fire(0)", x.fire(0), 0);
    }

    private static void sceneAndListed() {
        CurtainHouse x = new CurtainHouse();
        Due.due("scene(0, 11)", x.scene(0, 11), 0);
        Due.due("scene(5, 0)", x.scene(5, 0), 5);
        Due.due("scene(0, 3)", x.scene(0, 3), 11);
        Due.due("scene(-1, 0)", x.scene(-1, 0), Due.BEYOND);
        Due.due("scene(6, 0)", x.scene(6, 0), Due.BEYOND);
        Due.due("scene(0, -1)", x.scene(0, -1), Due.BEYOND);
        Due.due("scene(0, 12)", x.scene(0, 12), Due.BEYOND);
        Due.due("listed(0)", x.listed(0), 3);
        Due.due("listed(5)", x.listed(5), 0);
        Due.due("listed(-1)", x.listed(-1), Due.BEYOND);
        Due.due("listed(6)", x.listed(6), Due.BEYOND);
    }

    private static void curtain() {
        CurtainHouse x = new CurtainHouse();
        Due.due("curtain(-1, 0)", x.curtain(-1, 0), Due.BEYOND);
        Due.due("curtain(7, 0)", x.curtain(7, 0), Due.BEYOND);
        Due.due("curtain(0, -1)", x.curtain(0, -1), Due.BEYOND);
        Due.due("curtain(0, 4096)", x.curtain(0, 4096), Due.BEYOND);
        for (int c = 0; c < 8; c++) {
            Due.due("curtain number " + c, x.curtain(c % 7, 4095 - c), c);
        }
        Due.due("curtain(0, 4096), full", x.curtain(0, 4096), Due.BEYOND);
        Due.due("a 9th curtain", x.curtain(0, 0), Due.FULL);
        Due.due("count(1)", x.count(1), 8);
        int[] first = {2, 60, 4093, 20, 0, 0};
        for (int what = 0; what < 6; what++) {
            Due.due("of(2, " + what + ")", x.of(2, what), first[what]);
        }
    }

    private static void ofWrong() {
        CurtainHouse x = Due.house("velvet");
        Due.due("of(-1, 0)", x.of(-1, 0), Due.BEYOND);
        Due.due("of(1, 0)", x.of(1, 0), Due.BEYOND);
        Due.due("of(0, -1)", x.of(0, -1), Due.BEYOND);
        Due.due("of(0, 11)", x.of(0, 11), Due.BEYOND);
    }

    // Rows: GLADDENS, TIRES, BEARS, FALLS, RISES, without LIKES or FIRE, by an even SCENE.
    private static void ofKinds() {
        int[][] rows = {
            {5, 4, 30, 4, 2}, {10, 6, 40, 2, 1}, {4, 2, 20, 6, 3}, {4, 2, 20, 20, 6},
            {4, 1, 40, 5, 6}, {0, 0, 0, 1, 1}, {8, 6, 40, 2, 1}};
        for (int kind = 0; kind < 7; kind++) {
            CurtainHouse x = Due.house(KIND_WORDS[kind]);
            Due.due(KIND_WORDS[kind] + " 0", x.of(0, 0), kind);
            for (int what = 6; what <= 10; what++) {
                Due.due(KIND_WORDS[kind] + " " + what, x.of(0, what), rows[kind][what - 6]);
            }
        }
    }

    private static void ofWhatDepends() {
        CurtainHouse x = Due.house("cloud likes 4095;drop likes 7;fringe high 0;scene 0 11;gauze");
        Due.due("a CLOUD GLADDENS by LIKES", x.of(0, 6), 16);
        Due.due("a DROP doesn't", x.of(1, 6), 4);
        Due.due("a CLOUD TIRES by an odd SCENE", x.of(0, 7), 2);
        Due.due("a DROP TIRES by an odd SCENE", x.of(1, 7), 3);
        Due.due("a GAUZE TIRES by an odd SCENE", x.of(3, 7), 2);
        Due.due("a FRINGE that is down", x.of(2, 7), 0);
        x.change(2, 3, 1);
        Due.due("a FRINGE that isn't", x.of(2, 7), 6);
        x.go(1);
        x.scene(1, 4);
        Due.due("a DROP TIRES by this BEAT's SCENE", x.of(1, 7), 2);
        x.fire(1);
        Due.due("a FRINGE FALLS in a FIRE", x.of(2, 9), 8);
        Due.due("a DROP FALLS in a FIRE", x.of(1, 9), 20);
        x.change(2, 0, 1);
        Due.due("a VELVET FALLS in a FIRE", x.of(2, 9), 2);
    }

    private static void change() {
        CurtainHouse x = Due.house("velvet;gauze likes 5");
        int[] was = {2, 60, 5, 20, 0, 0};
        int[] most = {6, 99, 4095, 20, 1, 9999};
        for (int what = 0; what < 6; what++) {
            Due.due("change above", x.change(1, what, most[what] + 1), Due.BEYOND);
            Due.due("change below", x.change(1, what, -1), Due.BEYOND);
            Due.due("change to the most", x.change(1, what, most[what]), was[what]);
            Due.due("of it", x.of(1, what), most[what]);
            Due.due("change to 0", x.change(1, what, 0), most[what]);
            Due.due("of it", x.of(1, what), 0);
        }
        Due.due("change(1, 6, 0)", x.change(1, 6, 0), Due.BEYOND);
        Due.due("change(1, -1, 0)", x.change(1, -1, 0), Due.BEYOND);
        Due.due("change(2, 0, 0)", x.change(2, 0, 0), Due.BEYOND);
        Due.due("change(-1, 0, 0)", x.change(-1, 0, 0), Due.BEYOND);
        Due.due("the other one stays", x.of(0, 0), 1);
    }

    private static void pull() {
        CurtainHouse x = Due.house("gauze high 0;iron high 19;velvet mood 3 high 1;drop high 1 tied");
        Due.due("pull(0, 19)", x.pull(0, 19), 4);
        Due.due("its MOOD", x.of(0, 1), 57);
        Due.due("pull(0, 4)", x.pull(0, 4), 7);
        Due.due("its MOOD", x.of(0, 1), 57);
        Due.due("pull(1, 40)", x.pull(1, 40), 20);
        Due.due("its MOOD", x.of(1, 1), 52);
        Due.due("pull(2, 30)", x.pull(2, 30), 5);
        Due.due("its MOOD", x.of(2, 1), 0);
        Due.due("pull(3, 1)", x.pull(3, 1), Due.STATE);
        Due.due("pull(3, 0)", x.pull(3, 0), Due.BEYOND);
        Due.due("pull(3, 41)", x.pull(3, 41), Due.BEYOND);
        Due.due("pull(4, 1)", x.pull(4, 1), Due.BEYOND);
        Due.due("pull(-1, 1)", x.pull(-1, 1), Due.BEYOND);
        Due.due("its HIGH", x.of(3, 3), 1);
    }
}
