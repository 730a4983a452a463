/** Promises 38 to 42: image, undo, tear, count, status. */
public final class ImagesTest {
    public static void main(String[] args) {
        imageAndUndo();
        notKept();
        latest();
        tear();
        count();
        status();
        findingsChangeNothing();
        Due.end();
    }

    private static void imageAndUndo() {
        CurtainHouse x = Due.house("fire;curtain mood 40 likes 9;drop;scene 2 7");
        x.hold(3, 1);
        x.seed(99);
        x.go(1);
        Due.due("image()", x.image(), 1);
        for (int round = 0; round < 2; round++) {
            x.fire(0);
            x.scene(2, 1);
            x.evening(20);
            x.go(60);
            x.fire(1);
            x.change(1, 3, 20);
            x.go(1);
            for (int what = 0; what < 6; what++) {
                x.change(0, what, 1);
            }
            x.curtain(0, 0);
            x.hold(3, -1);
            x.hold(4, 2);
            Due.due("undo()", x.undo(), 1);
            checkKept(x);
        }
    }

    private static void checkKept(CurtainHouse x) {
        // MOODS: 40 and 5 by a SCENE that it LIKES, 60 less 2, no more by coming down in a FIRE.
        int[] now = {1, 0, 100, 2, 0, 103, 9, 1};
        for (int what = 0; what < 8; what++) {
            Due.due("now(" + what + ")", x.now(what), now[what]);
        }
        int[] count = {1, 2, 0, 100, 1, 0, 99, 1};
        for (int what = 0; what < 8; what++) {
            Due.due("count(" + what + ")", x.count(what), count[what]);
        }
        int[] first = {0, 45, 9, 16, 0, 0};
        for (int what = 0; what < 6; what++) {
            Due.due("of(0, " + what + ")", x.of(0, what), first[what]);
        }
        Due.due("listed(2)", x.listed(2), 7);
        Due.due("as(3, 0)", x.as(3, 0), 1);
        Due.due("as(4, 0)", x.as(4, 0), Due.MISSING);
    }

    private static void notKept() {
        CurtainHouse x = Due.house("curtain");
        Due.feed(x, "fire");
        x.sheet(0, 8, 1);
        x.image();
        x.go(3);
        x.write(0, 0, 20);
        x.sheet(1, 8, 1);
        Due.feed(x, ";out");
        x.fire(9);
        Due.due("undo()", x.undo(), 0);
        Due.due("count(5), THE TAPE stays", x.count(5), 8);
        Due.due("judge(0), SHEETS stay", x.judge(0), 0);
        Due.due("judge(1)", x.judge(1), 1);
        Due.due("status(0) stays", x.status(0), 1);
    }

    private static void latest() {
        CurtainHouse x = new CurtainHouse();
        x.go(1);
        x.image();
        x.go(1);
        x.image();
        x.go(1);
        Due.due("undo() to the latest", x.undo(), 2);
        x.go(5);
        Due.due("undo() again", x.undo(), 2);
        newAgain(x, true);
        newAgain(x, false);
    }

    /** A CURTAIN that undo() took away leaves nothing to the next one of its number. */
    private static void newAgain(CurtainHouse x, boolean byText) {
        x.curtain(6, 5);
        for (int what = 0; what < 6; what++) {
            x.change(0, what, 1);
        }
        Due.due("undo()", x.undo(), 2);
        Due.due("count(1)", x.count(1), 0);
        Due.due("a new CURTAIN again", byText ? Due.read(x, "gauze") - 1 : x.curtain(2, 0), 0);
        int[] first = {2, 60, 0, 20, 0, 0};
        for (int what = 0; what < 6; what++) {
            Due.due("of(0, " + what + ")", x.of(0, what), first[what]);
        }
        x.undo();
    }

    private static void tear() {
        CurtainHouse x = new CurtainHouse();
        Due.due("undo()", x.undo(), Due.NONE);
        Due.due("tear()", x.tear(), 0);
        x.image();
        x.go(4);
        Due.due("tear()", x.tear(), 1);
        Due.due("tear()", x.tear(), 0);
        Due.due("undo()", x.undo(), Due.NONE);
        Due.due("now(0)", x.now(0), 4);
        Due.due("status(3)", x.status(3), 2);
    }

    private static void count() {
        CurtainHouse x = Due.house("drop mood 3;iron high 0;velvet");
        x.hold(0, 0);
        x.hold(1, 0);
        x.feed(0, 3);
        x.seed(-5);
        x.go(1);
        int[] want = {1, 3, 1, 0, 1, 3, -5, 2};
        for (int what = 0; what < 8; what++) {
            Due.due("count(" + what + ")", x.count(what), want[what]);
        }
        x.fire(1);
        x.change(2, 3, 1);
        x.go(1);
        Due.due("count(3)", x.count(3), 200);
        Due.due("count(4)", x.count(4), 3);
        Due.due("count(-1)", x.count(-1), Due.BEYOND);
        Due.due("count(8)", x.count(8), Due.BEYOND);
    }

    private static void status() {
        CurtainHouse x = Due.house("iron tied;iron;iron;iron;iron;iron;iron;iron");
        x.hold(0, 0);
        x.fire(2);
        x.fire(3);
        x.curtain(0, 0);
        x.as(0, 1);
        x.undo();
        x.down(0);
        x.pull(0, 1);
        x.pull(0, 2);
        x.pull(0, 3);
        x.load(0);
        x.sheet(0, 8, -1);
        int[] want = {2, 1, 1, 2, 3, 1, 1};
        for (int which = 0; which < 7; which++) {
            Due.due("status(" + which + ")", x.status(which), want[which]);
        }
        Due.due("status(-1)", x.status(-1), 11);
        Due.due("status(7)", x.status(7), Due.BEYOND);
        Due.due("status(-2)", x.status(-2), Due.BEYOND);
        Due.due("status(0), they count", x.status(0), 4);
        Due.due("status(-1)", x.status(-1), 13);
        Due.due("a FAULT is no finding", Due.read(x, "x"), -1);
        Due.due("status(-1)", x.status(-1), 13);
        x.odds(9, 9, 9);
        Due.due("status(0), odds() counts, too", x.status(0), 5);
    }

    private static void findingsChangeNothing() {
        CurtainHouse x = Due.house("curtain mood 20;iron tied");
        x.image();
        x.scene(0, 12);
        x.change(0, 1, 100);
        x.pull(1, 40);
        x.go(61);
        x.evening(21);
        x.hold(0, 5);
        x.feed(0, 5);
        x.undo();
        x.down(1);
        x.moodFor(0, 61);
        Due.due("listed(0)", x.listed(0), 0);
        Due.due("of(0, 1)", x.of(0, 1), 20);
        Due.due("of(1, 3)", x.of(1, 3), 20);
        int[] want = {0, 2, 0, 0, 0, 0, 1, 0};
        for (int what = 0; what < 8; what++) {
            Due.due("count(" + what + ")", x.count(what), want[what]);
        }
    }
}
