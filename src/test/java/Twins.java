/**
 * Two houses made alike, one of which is then asked what must be refused: it stays as the other one
 * is, but for status().
 */
final class Twins {
    interface Act {
        long on(CurtainHouse x);
    }

    private static final int FINDINGS = 7;

    private final CurtainHouse asked;
    private final CurtainHouse other;
    private final int[] refusals = new int[FINDINGS];

    /** Houses with what a text tells, an image unlike what is now, a tape, sheets and a held one. */
    Twins(String text) {
        asked = make(text);
        other = make(text);
    }

    private static CurtainHouse make(String text) {
        CurtainHouse x = text.isEmpty() ? new CurtainHouse() : Due.house(text);
        x.seed(4711);
        int was = x.scene(4, 9);
        x.image();
        x.scene(4, was);
        x.seed(12);
        x.hold(2, x.count(1) - 1);
        Due.tell(x, 0, 8, 3, 2, 1);
        Due.tell(x, 1, 16, 20, -1, 5);
        Due.tell(x, 2, 32);
        Due.feed(x, "out;scene 3 7");
        return x;
    }

    /** Something that both are told ahead of what is refused. */
    Twins both(Act act) {
        Due.due("alike", act.on(asked), act.on(other));
        return this;
    }

    Twins refuses(String call, int finding, Act act) {
        Due.due(call, act.on(asked), finding);
        refusals[Due.LOW - finding]++;
        return this;
    }

    /** What the one that is asked does with an answer that is due, the other by another call. */
    void apart(String call, long due, Act act, Act instead) {
        Due.due(call, act.on(asked), due);
        instead.on(other);
    }

    Twins beyond(String call, Act act) {
        return refuses(call, Due.BEYOND, act);
    }

    /** Compares all that can be seen of the two; the last thing to ask of them. */
    void stayAlike() {
        compareStatus();
        compareHouse("now");
        compareSheets();
        compare("text", CurtainHouse::text);
        compare("load", x -> x.load(0));
        compare("evening", x -> x.evening(1));
        compareHouse("behind text, load and evening");
        compare("undo", CurtainHouse::undo);
        compareHouse("behind undo");
    }

    private void compare(String what, Act act) {
        Due.due("unchanged: " + what, act.on(asked), act.on(other));
    }

    private void compareStatus() {
        int all = 0;
        for (int k = 0; k < FINDINGS; k++) {
            Due.due("status(" + k + ")", asked.status(k), other.status(k) + refusals[k]);
            all += refusals[k];
        }
        Due.due("status(-1)", asked.status(-1), other.status(-1) + all);
    }

    private void compareHouse(String when) {
        for (int k = 0; k < 8; k++) {
            int what = k;
            compare("now(" + k + ") " + when, x -> x.now(what));
            compare("count(" + k + ") " + when, x -> x.count(what));
        }
        for (int k = 0; k < 6; k++) {
            int place = k;
            compare("listed(" + k + ") " + when, x -> x.listed(place));
        }
        int rows = 6 * other.count(1);
        for (int k = 0; k < rows; k++) {
            int curtain = k / 6;
            int what = k % 6;
            compare("of(" + curtain + ", " + what + ") " + when, x -> x.of(curtain, what));
        }
        compare("as(2, 0) " + when, x -> x.as(2, 0));
    }

    private void compareSheets() {
        for (int k = 0; k < 4; k++) {
            int s = k;
            compare("judge(" + k + ")", x -> x.judge(s));
            compare("kinds(" + k + ", 0)", x -> x.kinds(s, 0));
            for (int n = 0; n <= 5; n++) {
                int many = n;
                compare("numbers of sheet " + k, x -> x.copy(s, 0, s, 0, many));
            }
        }
        compare("bits of sheets 0, 1", x -> x.copy(0, 0, 1, 0, 0));
        compare("bits of sheets 0, 2", x -> x.copy(0, 0, 2, 0, 0));
    }
}
