/** The boundary cases of promises 38 to 42, sentence by sentence. */
public final class ImagesBoundsTest {
    private static final int MIN = Integer.MIN_VALUE;
    private static final int MAX = Integer.MAX_VALUE;

    public static void main(String[] args) {
        imageKeepsAllBut();
        imageOfAFullHouse();
        imageDoesntKeepTapeAndSheets();
        undoLatest();
        undoStays();
        undoTellsBeat();
        undoLeavesNothing();
        undoNone();
        tearTells();
        countTells();
        countEnds();
        countBeyond();
        statusCounts();
        statusByUndo();
        statusBeyond();
        Due.end();
    }

    private static void imageKeepsAllBut() {
        Doc.says(38, "All but THE TAPE and SHEETS is kept: 1.");
        CurtainHouse x = Due.house("drop mood 0 likes 5;fringe mood 41 likes 2048 high 3 tied;scene 5 11;scene 0 10");
        x.hold(0, 1);
        x.hold(9, 0);
        x.go(1);
        x.fire(1);
        x.change(0, 3, 20);
        x.go(1);
        x.seed(MIN);
        Due.due("image()", x.image(), 1);
        int[] seen = see(x);
        x.fire(0);
        x.evening(20);
        x.go(60);
        for (int i = 0; i < 6; i++) {
            x.scene(i, 3);
        }
        for (int what = 0; what < 6; what++) {
            x.change(0, what, 1);
            x.change(1, what, 0);
        }
        x.hold(0, -1);
        x.hold(9, 1);
        x.hold(5, 0);
        x.curtain(6, 1);
        Due.due("undo()", x.undo(), 2);
        int[] again = see(x);
        for (int k = 0; k < seen.length; k++) {
            Due.due("what is seen, " + k, again[k], seen[k]);
        }
        Due.due("CUT, SAVED, z", x.now(1) * 1000 + x.now(2), 1100);
        Due.due("count(6)", x.count(6), MIN);
    }

    /** All that can be seen of a house with two CURTAINS, but THE TAPE, SHEETS and findings. */
    private static int[] see(CurtainHouse x) {
        int[] seen = new int[8 + 8 + 6 + 12 + 10];
        int at = 0;
        for (int what = 0; what < 8; what++) {
            seen[at++] = x.now(what);
            seen[at++] = what == 5 ? 0 : x.count(what);
        }
        for (int i = 0; i < 6; i++) {
            seen[at++] = x.listed(i);
        }
        for (int k = 0; k < 12; k++) {
            seen[at++] = x.of(k / 6, k % 6);
        }
        for (int spot = 0; spot < 10; spot++) {
            seen[at++] = x.as(spot, 0);
        }
        return seen;
    }

    private static void imageOfAFullHouse() {
        Doc.says(38, "is kept: 1.");
        CurtainHouse x = Due.house("iron;iron;iron;iron;iron;iron;iron;drop mood 7 likes 9 high 2 tied");
        x.image();
        for (int what = 0; what < 6; what++) {
            x.change(7, what, 1);
        }
        x.undo();
        int[] last = {3, 7, 9, 2, 1, 0};
        for (int what = 0; what < 6; what++) {
            Due.due("of(7, " + what + ")", x.of(7, what), last[what]);
        }
        CurtainHouse nobody = new CurtainHouse();
        Due.due("image() of an empty house", nobody.image(), 1);
        nobody.curtain(0, 0);
        nobody.undo();
        Due.due("count(1)", nobody.count(1), 0);
        Due.due("of(0, 0)", nobody.of(0, 0), Due.BEYOND);
    }

    private static void imageDoesntKeepTapeAndSheets() {
        Doc.says(38, "All but THE TAPE and SHEETS");
        CurtainHouse x = Due.house("iron high 3");
        Due.feed(x, "fi");
        Due.tell(x, 0, 8, 9);
        Due.tell(x, 1, 8, 9);
        x.image();
        Due.feed(x, "re");
        x.write(0, 0, 3);
        x.sheet(1, 0, 0);
        x.sheet(2, 16, 0);
        x.undo();
        Due.due("judge(0), written", x.judge(0), 0);
        Due.due("judge(1), MISSING", x.judge(1), Due.MISSING);
        Due.due("judge(2), no numbers", x.judge(2), 0);
        Due.due("count(5)", x.count(5), 4);
        Due.due("text(), fire", x.text(), 1);
        x.undo();
        Due.due("count(5), empty as it was left", x.count(5), 0);
        Due.due("now(7), FIRE is kept", x.now(7), 0);
    }

    private static void undoLatest() {
        Doc.says(39, "It becomes what was kept latest (which stays): BEAT.");
        CurtainHouse x = new CurtainHouse();
        for (int k = 1; k <= 3; k++) {
            x.go(k);
            x.image();
        }
        x.go(60);
        Due.due("undo(), the latest", x.undo(), 6);
        Due.due("undo(), not the one ahead", x.undo(), 6);
        x.image();
        x.tear();
        x.image();
        x.go(1);
        Due.due("undo(), behind tear() and image()", x.undo(), 6);
    }

    private static void undoStays() {
        Doc.says(39, "(which stays)");
        CurtainHouse x = Due.house("drop mood 50 likes 3");
        x.image();
        for (int round = 0; round < 3; round++) {
            x.change(0, 1, 9);
            x.evening(20);
            Due.read(x, "fire;scene 1 7");
            Due.due("undo()", x.undo(), 0);
            Due.due("MOOD, LIKES", x.of(0, 1) * 100 + x.of(0, 2), 5003);
            Due.due("listed(1)", x.listed(1), 1);
        }
    }

    private static void undoTellsBeat() {
        Doc.says(39, "BEAT.");
        CurtainHouse x = new CurtainHouse();
        x.image();
        Due.due("undo(), at once", x.undo(), 0);
        x.go(60);
        Due.due("undo(), BEAT then, not ahead of it", x.undo(), 0);
        x.go(7);
        x.image();
        Due.due("undo()", x.undo(), 7);
    }

    private static void undoLeavesNothing() {
        Doc.says(39, "It becomes what was kept latest");
        for (int way = 0; way < 4; way++) {
            CurtainHouse x = new CurtainHouse();
            x.image();
            if (way < 2) {
                x.curtain(6, 4095);
                for (int what = 0; what < 6; what++) {
                    x.change(0, what, 1);
                }
            } else {
                Due.read(x, "velvet mood 1 likes 5 high 2 tied");
            }
            x.undo();
            Due.due("hold(0, 0), there is none", x.hold(0, 0), Due.BEYOND);
            Due.due("a new one", way % 2 == 0 ? x.curtain(2, 0) : Due.read(x, "gauze") - 1, 0);
            int[] first = {2, 60, 0, 20, 0, 0};
            for (int what = 0; what < 6; what++) {
                Due.due("all as at first, of(0, " + what + "), way " + way, x.of(0, what), first[what]);
            }
        }
    }

    private static void undoNone() {
        Doc.says(39, "NONE: nothing is kept.");
        CurtainHouse x = Due.house("drop mood 0;fire");
        x.go(1);
        Due.due("undo(), never kept", x.undo(), Due.NONE);
        Due.due("BEAT", x.now(0), 1);
        Due.due("SAVED", x.now(2), 100);
        Due.due("FIRE", x.now(7), 1);
        Due.due("CURTAINS", x.count(1), 1);
        new Twins("drop").both(CurtainHouse::tear).refuses("undo(), torn", Due.NONE, CurtainHouse::undo)
                .refuses("undo() again", Due.NONE, CurtainHouse::undo).stayAlike();
    }

    private static void tearTells() {
        Doc.says(40, "Nothing is kept: 1 if something was, else 0.");
        CurtainHouse x = new CurtainHouse();
        Due.due("tear(), never kept", x.tear(), 0);
        x.image();
        x.image();
        x.undo();
        x.go(3);
        Due.due("tear(), kept twice", x.tear(), 1);
        Due.due("tear() again", x.tear(), 0);
        Due.due("undo()", x.undo(), Due.NONE);
        Due.due("BEAT, what is now stays", x.now(0), 3);
        x.image();
        Due.due("tear(), kept again", x.tear(), 1);
        Due.due("status(-1), tear() tells no finding", x.status(-1), 1);
    }

    private static void countTells() {
        Doc.says(41, "0 BEAT, 1 CURTAINS, 2 CUT, 3 SAVED, 4 how many are down, 5 bytes of THE TAPE, 6 z, 7 SPOTS that hold"
                + " something.");
        CurtainHouse x = Due.house("drop mood 0;iron high 0;velvet;iron tied");
        x.go(1);
        x.fire(1);
        x.change(2, 3, 1);
        x.change(0, 3, 5);
        x.go(4);
        x.hold(0, 3);
        x.hold(4, 3);
        x.hold(9, 0);
        x.feed(0, 3);
        x.seed(-9);
        // The IRON had risen by 1 in the first BEAT, so it comes down in the FIRE, too.
        int[] want = {5, 4, 1, 300, 3, 3, -9, 3};
        for (int what = 0; what < 8; what++) {
            Due.due("count(" + what + ")", x.count(what), want[what]);
        }
    }

    private static void countEnds() {
        Doc.says(41, "4 how many are down");
        CurtainHouse x = new CurtainHouse();
        int[] first = {0, 0, 0, 0, 0, 0, 1, 0};
        for (int what = 0; what < 8; what++) {
            Due.due("count(" + what + "), at first", x.count(what), first[what]);
        }
        for (int c = 0; c < 8; c++) {
            x.curtain(5, 0);
            Due.due("count(1)", x.count(1), c + 1);
            Due.due("count(4)", x.count(4), c);
            x.change(c, 3, 0);
        }
        Due.due("count(4), all", x.count(4), 8);
        for (int k = 0; k < 30; k++) {
            x.feed(0, 4);
        }
        Due.due("count(5), all", x.count(5), 120);
        for (int spot = 0; spot < 10; spot++) {
            x.hold(spot, 0);
        }
        Due.due("count(7), all", x.count(7), 10);
    }

    private static void countBeyond() {
        Doc.says(41, "BEYOND: another what.");
        new Twins("drop;iron").beyond("count(-1)", x -> x.count(-1)).beyond("count(8)", x -> x.count(8))
                .beyond("count(MIN)", x -> x.count(MIN)).beyond("count(MAX)", x -> x.count(MAX)).stayAlike();
    }

    private static void statusCounts() {
        Doc.says(42, "How many acts answered a finding ever (undo() takes none back): which -1: all, 0 to 6: BEYOND to"
                + " SIZE.");
        CurtainHouse x = Due.house("iron tied;iron;iron;iron;iron;iron;iron;iron");
        x.hold(0, 0);
        Twins.Act[] acts = {h -> h.fire(2), h -> h.curtain(0, 0), h -> h.as(0, 1), CurtainHouse::undo, h -> h.pull(0, 1),
            h -> h.load(0), h -> h.sheet(0, 8, -1)};
        int all = 0;
        for (int which = 0; which < 7; which++) {
            Due.due("status(" + which + "), none yet", x.status(which), 0);
            for (int k = 0; k <= which; k++) {
                Due.due("a finding", acts[which].on(x), Due.LOW - which);
                all++;
                Due.due("status(" + which + ")", x.status(which), k + 1);
                Due.due("status(-1)", x.status(-1), all);
            }
        }
        Due.due("asking counts nothing", x.status(-1), all);
        x.odds(9, 0, 0);
        Due.due("status(0), a long's finding", x.status(0), 2);
        Due.read(x, "actor");
        x.judge(0);
        x.down(0);
        Due.due("status(-1), a FAULT is none, MISSING and NONE are", x.status(-1), all + 3);
    }

    private static void statusByUndo() {
        Doc.says(42, "(undo() takes none back)");
        CurtainHouse x = new CurtainHouse();
        x.fire(2);
        x.image();
        x.fire(2);
        x.load(0);
        x.undo();
        Due.due("status(0)", x.status(0), 2);
        Due.due("status(5)", x.status(5), 1);
        Due.due("status(-1)", x.status(-1), 3);
        x.tear();
        x.undo();
        Due.due("status(3)", x.status(3), 1);
        Due.due("status(-1)", x.status(-1), 4);
    }

    private static void statusBeyond() {
        Doc.says(42, "BEYOND (counted from then on): another one.");
        CurtainHouse x = new CurtainHouse();
        Due.due("status(0), none yet", x.status(0), 0);
        int many = 0;
        for (int which : new int[] {-2, 7, MIN, MAX}) {
            Due.due("status(" + which + ")", x.status(which), Due.BEYOND);
            many++;
            Due.due("status(0), counted from then on", x.status(0), many);
            Due.due("status(-1)", x.status(-1), many);
        }
        new Twins("drop").beyond("status(-2)", h -> h.status(-2)).beyond("status(7)", h -> h.status(7)).stayAlike();
    }
}
