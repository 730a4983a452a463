/**
 * A house whose curtains have feelings: they rise and fall by their moods, beat by beat.
 *
 * <p>The document (shared/DOC.md) says what each call promises; words in capitals are its terms.
 */
public final class CurtainHouse {
    private static final int LOW = -1000001;

    // Each finding's place in the counts of status(); its answer is LOW less that place.
    private static final int BEYOND = 0;
    private static final int FULL = 1;
    private static final int KIND = 2;
    private static final int NONE = 3;
    private static final int STATE = 4;
    private static final int MISSING = 5;
    private static final int SIZE = 6;
    private static final int FINDINGS = 7;

    private static final int CURTAIN = 0;
    private static final int VELVET = 1;
    private static final int GAUZE = 2;
    private static final int DROP = 3;
    private static final int CLOUD = 4;
    private static final int IRON = 5;
    private static final int FRINGE = 6;
    private static final int KINDS = 7;

    // One number a KIND, in the order of their numbers. What depends on more than the KIND
    // (a CLOUD's LIKES, an odd SCENE, a FRINGE that is down or in a FIRE) is added in Curtain.
    private static final int[] GLADDENS = {5, 10, 4, 4, 4, 0, 8};
    private static final int[] TIRES = {4, 6, 2, 2, 1, 0, 6};
    private static final int[] BEARS = {30, 40, 20, 20, 40, 0, 40};
    private static final int[] FALLS = {4, 2, 6, 20, 5, 1, 2};
    private static final int[] RISES = {2, 1, 3, 6, 6, 1, 1};
    private static final int FRINGE_FALLS_IN_FIRE = 6;

    // The KINDS that one of a KIND counts as (itself and those above it), as sets.
    private static final int[] COUNTS_AS = {1, 3, 5, 13, 29, 33, 67};

    // What of() and change() know a CURTAIN's parts by.
    private static final int OF_KIND = 0;
    private static final int OF_MOOD = 1;
    private static final int OF_LIKES = 2;
    private static final int OF_HIGH = 3;
    private static final int OF_TIED = 4;
    private static final int OF_DOWNS = 5;
    private static final int OF_GLADDENS = 6;
    private static final int OF_TIRES = 7;
    private static final int OF_BEARS = 8;
    private static final int OF_FALLS = 9;
    private static final int OF_RISES = 10;

    private static final int SCENES = 12;
    private static final int MOST_LIKES = 4095;
    private static final int PLACES = 6;
    private static final int MOST_CURTAINS = 8;
    private static final int FIRST_MOOD = 60;
    private static final int MOST_MOOD = 99;
    private static final int MOST_HIGH = 20;
    private static final int MOST_DOWNS = 9999;
    private static final int MOST_CUT = 99999;
    private static final int MOST_SAVED = 900;
    private static final int MOST_BEAT = 99999;
    private static final int MOOD_BY_CUT = 25;
    private static final int SAVED_BY_ONE = 100;

    // The greatest value of each part that change() may set, by its what.
    private static final int[] MOST_OF = {6, 99, 4095, 20, 1, 9999};

    private static final int MOST_HANDS = 40;
    private static final int MOST_GO = 60;
    private static final int MOST_AHEAD = 100;
    private static final int MOST_UNTIL = 200;
    private static final int MOST_PLANNED = 60;
    private static final int MOST_TIE = 20;
    private static final int MOST_EVENING = 20;
    private static final int MOST_ODDS = 17;

    private static final int MOST_BYTES = 120;
    private static final int MOST_FED = 4;
    private static final int SPOTS = 10;
    private static final int NOTHING = -1;
    private static final int SHEETS = 4;
    private static final int MOST_NUMBERS = 40;
    private static final int ANY_HIGH = -1;

    private static final int DRAW_TIMES = 1103515245;
    private static final int DRAW_MORE = 12345;

    private final House house = new House();
    private final House kept = new House();
    private boolean isKept;

    // Kept for questions of what would be, so that no call makes objects.
    private final House trial = new House();
    private final Curtain probe = new Curtain();

    private final Tape tape = new Tape();
    private final Sheet[] sheets = new Sheet[SHEETS];
    private final int[] found = new int[FINDINGS];

    public CurtainHouse() {
        for (int s = 0; s < SHEETS; s++) {
            sheets[s] = new Sheet();
        }
    }

    // ---- house, curtains

    public int fire(int v) {
        if (!isWithin(v, 0, 1)) {
            return find(BEYOND);
        }
        int was = house.fire;
        house.fire = v;
        return was;
    }

    public int scene(int i, int scene) {
        if (!isPlace(i) || !isWithin(scene, 0, SCENES - 1)) {
            return find(BEYOND);
        }
        int was = house.list[i];
        house.list[i] = scene;
        return was;
    }

    public int listed(int i) {
        if (!isPlace(i)) {
            return find(BEYOND);
        }
        return house.list[i];
    }

    public int curtain(int kind, int likes) {
        if (!isKind(kind) || !isWithin(likes, 0, MOST_LIKES)) {
            return find(BEYOND);
        }
        if (house.isFull()) {
            return find(FULL);
        }
        house.hang(kind).likes = likes;
        return house.hung - 1;
    }

    public int of(int curtain, int what) {
        if (!isCurtain(curtain) || !isWithin(what, OF_KIND, OF_RISES)) {
            return find(BEYOND);
        }
        return house.curtains[curtain].tell(what, house.sceneIn(0), house.fire);
    }

    public int change(int curtain, int what, int v) {
        if (!isCurtain(curtain) || !isWithin(what, OF_KIND, OF_DOWNS)
                || !isWithin(v, 0, MOST_OF[what])) {
            return find(BEYOND);
        }
        Curtain changed = house.curtains[curtain];
        int was = changed.tell(what, house.sceneIn(0), house.fire);
        changed.set(what, v);
        return was;
    }

    public int pull(int curtain, int hands) {
        if (!isCurtain(curtain) || !isWithin(hands, 1, MOST_HANDS)) {
            return find(BEYOND);
        }
        Curtain pulled = house.curtains[curtain];
        if (pulled.tied == 1) {
            return find(STATE);
        }
        pulled.getPulled(hands);
        return pulled.high;
    }

    // ---- beats

    public int go(int n) {
        if (!isWithin(n, 1, MOST_GO)) {
            return find(BEYOND);
        }
        if (house.beat > MOST_BEAT - n) {
            return find(STATE);
        }
        house.passBeats(n);
        return house.cut;
    }

    public int now(int what) {
        switch (what) {
            case 0: return house.beat;
            case 1: return house.cut;
            case 2: return house.saved;
            case 3: return house.thoseDown();
            case 4: return house.thoseWeary();
            case 5: return house.allMoods();
            case 6: return house.allLikes();
            case 7: return house.fire;
            default: return find(BEYOND);
        }
    }

    // ---- what will be (nothing changes)

    public int ahead(int curtain, int what, int n) {
        boolean isTold = what == OF_MOOD || what == OF_HIGH || what == OF_DOWNS || what == OF_BEARS;
        if (!isCurtain(curtain) || !isTold || !isWithin(n, 0, MOST_AHEAD)) {
            return find(BEYOND);
        }
        probe.take(house.curtains[curtain]);
        passProbe(n);
        return probe.tell(what, house.sceneIn(n), house.fire);
    }

    public int cut(int n) {
        if (!isWithin(n, 0, MOST_AHEAD)) {
            return find(BEYOND);
        }
        trial.take(house);
        trial.passBeats(n);
        return trial.cut;
    }

    public int down(int curtain) {
        if (!isCurtain(curtain)) {
            return find(BEYOND);
        }
        return beatsUntil(curtain, OF_HIGH, 0, 0);
    }

    public int up(int curtain) {
        if (!isCurtain(curtain)) {
            return find(BEYOND);
        }
        return beatsUntil(curtain, OF_HIGH, MOST_HIGH, MOST_HIGH);
    }

    public int weary(int curtain, int v) {
        if (!isCurtain(curtain) || !isWithin(v, 0, MOST_MOOD)) {
            return find(BEYOND);
        }
        return beatsUntil(curtain, OF_MOOD, 0, v);
    }

    public int saved(int v) {
        if (!isWithin(v, 0, MOST_SAVED)) {
            return find(BEYOND);
        }
        trial.take(house);
        for (int n = 0; n <= MOST_UNTIL; n++) {
            if (trial.saved >= v) {
                return n;
            }
            trial.passBeat();
        }
        return find(NONE);
    }

    // ---- what to play

    public int sceneFor(int i, int n) {
        if (!isPlace(i) || !isWithin(n, 0, MOST_PLANNED)) {
            return find(BEYOND);
        }
        int best = 0;
        int leastCut = MOST_CUT + 1;
        for (int scene = 0; scene < SCENES; scene++) {
            trial.take(house);
            trial.list[i] = scene;
            trial.passBeats(n);
            if (trial.cut < leastCut) {
                leastCut = trial.cut;
                best = scene;
            }
        }
        return best;
    }

    public int kindFor(int curtain, int n) {
        if (!isCurtain(curtain) || !isWithin(n, 0, MOST_PLANNED)) {
            return find(BEYOND);
        }
        int best = 0;
        int greatestMood = -1;
        for (int kind = 0; kind < KINDS; kind++) {
            probe.take(house.curtains[curtain]);
            probe.kind = kind;
            passProbe(n);
            if (probe.mood > greatestMood) {
                greatestMood = probe.mood;
                best = kind;
            }
        }
        return best;
    }

    public int moodFor(int curtain, int n) {
        if (!isCurtain(curtain) || !isWithin(n, 0, MOST_PLANNED)) {
            return find(BEYOND);
        }
        Curtain asked = house.curtains[curtain];
        for (int mood = 0; mood <= MOST_MOOD; mood++) {
            probe.take(asked);
            probe.mood = mood;
            passProbe(n);
            if (probe.downs == asked.downs) {
                return mood;
            }
        }
        return find(NONE);
    }

    public int handsFor(int curtain, int n) {
        if (!isCurtain(curtain) || !isWithin(n, 0, MOST_PLANNED)) {
            return find(BEYOND);
        }
        Curtain asked = house.curtains[curtain];
        if (asked.tied == 1) {
            return find(STATE);
        }
        for (int hands = 1; hands <= MOST_HANDS; hands++) {
            probe.take(asked);
            probe.getPulled(hands);
            passProbe(n);
            if (probe.high > 0) {
                return hands;
            }
        }
        return find(NONE);
    }

    /**
     * No CURTAIN looks at another, so those that would cut a SCENE are just those to tie. A TIED
     * one never comes down, so there is always such a set, and NONE is never found.
     */
    public int tie(int n) {
        if (!isWithin(n, 0, MOST_TIE)) {
            return find(BEYOND);
        }
        boolean canBeMore = house.cut < MOST_CUT;
        int set = 0;
        for (int c = 0; canBeMore && c < house.hung; c++) {
            probe.take(house.curtains[c]);
            if (passProbe(n) > 0) {
                set |= 1 << c;
            }
        }
        return set;
    }

    public int please() {
        int best = 0;
        int fewest = SCENES + 1;
        for (int scenes = 0; scenes <= MOST_LIKES; scenes++) {
            int many = Integer.bitCount(scenes);
            if (many < fewest && house.isPleasedBy(scenes)) {
                fewest = many;
                best = scenes;
            }
        }
        return best;
    }

    // ---- told heights

    public int fits(int s, int curtain) {
        int finding = findingForTold(s, curtain);
        if (finding != NOTHING) {
            return find(finding);
        }
        trial.take(house);
        int place = house.placeIn(0);
        int set = 0;
        for (int scene = 0; scene < SCENES; scene++) {
            trial.list[place] = scene;
            probe.take(house.curtains[curtain]);
            if (isProbeAsTold(sheets[s])) {
                set |= 1 << scene;
            }
        }
        return set;
    }

    public int kinds(int s, int curtain) {
        int finding = findingForTold(s, curtain);
        if (finding != NOTHING) {
            return find(finding);
        }
        trial.take(house);
        int set = 0;
        for (int kind = 0; kind < KINDS; kind++) {
            probe.take(house.curtains[curtain]);
            probe.kind = kind;
            if (isProbeAsTold(sheets[s])) {
                set |= 1 << kind;
            }
        }
        return set;
    }

    // ---- evenings

    public int evening(int n) {
        if (!isWithin(n, 1, MOST_EVENING)) {
            return find(BEYOND);
        }
        if (house.beat > MOST_BEAT - n) {
            return find(STATE);
        }
        for (int k = 0; k < n; k++) {
            int scene = house.draw() % SCENES;
            int fickle = house.draw() % MOST_CURTAINS;
            house.list[house.placeIn(0)] = scene;
            if (isCurtain(fickle)) {
                house.curtains[fickle].likes ^= 1 << scene;
            }
            house.passBeat();
        }
        return house.cut;
    }

    public long odds(int curtain, int n, int what) {
        if (!isCurtain(curtain) || !isWithin(n, 0, MOST_ODDS) || !isWithin(what, 0, 1)) {
            return find(BEYOND);
        }
        int liked = Integer.bitCount(house.curtains[curtain].likes);
        int base = (what == 0 ? liked : SCENES) / commonDivisorWithScenes(liked);
        // 12 to the 17th still fits a long.
        long power = 1;
        for (int k = 0; k < n; k++) {
            power *= base;
        }
        return power;
    }

    public int seed(int v) {
        int was = house.z;
        house.z = v;
        return was;
    }

    // ---- texts

    public int feed(int bytes, int n) {
        if (!isWithin(n, 1, MOST_FED)) {
            return find(BEYOND);
        }
        if (tape.length > MOST_BYTES - n) {
            return find(FULL);
        }
        for (int k = n - 1; k >= 0; k--) {
            tape.add((byte) (bytes >> 8 * k));
        }
        return tape.length;
    }

    public int wipe() {
        int had = tape.length;
        tape.length = 0;
        return had;
    }

    public int text() {
        trial.take(house);
        int items = tape.readInto(trial);
        if (items >= 0) {
            house.take(trial);
        }
        tape.length = 0;
        return items;
    }

    // ---- spots, sheets

    public int hold(int spot, int curtain) {
        if (!isSpot(spot) || !(curtain == NOTHING || isCurtain(curtain))) {
            return find(BEYOND);
        }
        house.spots[spot] = curtain;
        return 1;
    }

    public int as(int spot, int kind) {
        if (!isSpot(spot) || !isKind(kind)) {
            return find(BEYOND);
        }
        int held = house.spots[spot];
        if (!isCurtain(held)) {
            return find(MISSING);
        }
        if (!house.curtains[held].countsAs(kind)) {
            return find(KIND);
        }
        return held;
    }

    public int sheet(int s, int bits, int n) {
        if (!isSheet(s) || !(bits == 0 || bits == 8 || bits == 16 || bits == 32)) {
            return find(BEYOND);
        }
        if (n < 0) {
            return find(SIZE);
        }
        if (n > MOST_NUMBERS) {
            return find(BEYOND);
        }
        sheets[s].lay(bits, bits == 0 ? 0 : n);
        return sheets[s].length;
    }

    public int write(int s, int i, int v) {
        if (!isSheet(s)) {
            return find(BEYOND);
        }
        if (sheets[s].isMissing()) {
            return find(MISSING);
        }
        if (!isWithin(i, 0, sheets[s].length - 1)) {
            return find(BEYOND);
        }
        sheets[s].put(i, v);
        return 1;
    }

    public int copy(int s, int from, int t, int to, int n) {
        if (!isSheet(s) || !isSheet(t)) {
            return find(BEYOND);
        }
        Sheet source = sheets[s];
        Sheet target = sheets[t];
        if (source.isMissing() || target.isMissing()) {
            return find(MISSING);
        }
        if (source.bits != target.bits) {
            return find(KIND);
        }
        if (!source.has(from, n) || !target.has(to, n)) {
            return find(BEYOND);
        }
        System.arraycopy(source.numbers, from, target.numbers, to, n);
        return n;
    }

    public int load(int s) {
        if (!isSheet(s)) {
            return find(BEYOND);
        }
        Sheet loaded = sheets[s];
        if (loaded.isMissing()) {
            return find(MISSING);
        }
        for (int i = 0; i < loaded.length; i++) {
            if (!isCurtain(i) || !isWithin(loaded.numbers[i], 0, MOST_LIKES)) {
                return i;
            }
            house.curtains[i].likes = loaded.numbers[i];
        }
        return loaded.length;
    }

    public int judge(int s) {
        if (!isSheet(s)) {
            return find(BEYOND);
        }
        Sheet judged = sheets[s];
        if (judged.isMissing()) {
            return find(MISSING);
        }
        for (int i = 0; i < judged.length; i++) {
            if (!isCurtain(i) || judged.numbers[i] != house.curtains[i].high) {
                return 1 + i;
            }
        }
        return 0;
    }

    // ---- images

    public int image() {
        kept.take(house);
        isKept = true;
        return 1;
    }

    public int undo() {
        if (!isKept) {
            return find(NONE);
        }
        house.take(kept);
        return house.beat;
    }

    public int tear() {
        int was = isKept ? 1 : 0;
        isKept = false;
        return was;
    }

    public int count(int what) {
        switch (what) {
            case 0: return house.beat;
            case 1: return house.hung;
            case 2: return house.cut;
            case 3: return house.saved;
            case 4: return Integer.bitCount(house.thoseDown());
            case 5: return tape.length;
            case 6: return house.z;
            case 7: return house.heldSpots();
            default: return find(BEYOND);
        }
    }

    public int status(int which) {
        if (!isWithin(which, -1, FINDINGS - 1)) {
            return find(BEYOND);
        }
        if (which >= 0) {
            return found[which];
        }
        int all = 0;
        for (int finding = 0; finding < FINDINGS; finding++) {
            all += found[finding];
        }
        return all;
    }

    // ---- helpers

    private int find(int finding) {
        found[finding]++;
        return LOW - finding;
    }

    private static boolean isWithin(int v, int least, int most) {
        return v >= least && v <= most;
    }

    private static boolean isKind(int kind) {
        return isWithin(kind, 0, KINDS - 1);
    }

    private static boolean isPlace(int i) {
        return isWithin(i, 0, PLACES - 1);
    }

    private static boolean isSpot(int spot) {
        return isWithin(spot, 0, SPOTS - 1);
    }

    private static boolean isSheet(int s) {
        return isWithin(s, 0, SHEETS - 1);
    }

    private boolean isCurtain(int curtain) {
        return isWithin(curtain, 0, house.hung - 1);
    }

    /** Lets n BEATS go by for the probe alone; how many SCENES it cut. */
    private int passProbe(int n) {
        int cuts = 0;
        for (int k = 0; k < n; k++) {
            if (probe.passBeat(house.sceneIn(k), house.fire) && house.fire == 0) {
                cuts++;
            }
        }
        return cuts;
    }

    /** The fewest BEATS behind which a part of a CURTAIN is from least to most, or NONE. */
    private int beatsUntil(int curtain, int what, int least, int most) {
        probe.take(house.curtains[curtain]);
        for (int n = 0; n <= MOST_UNTIL; n++) {
            int scene = house.sceneIn(n);
            if (isWithin(probe.tell(what, scene, house.fire), least, most)) {
                return n;
            }
            probe.passBeat(scene, house.fire);
        }
        return find(NONE);
    }

    /** What fits() and kinds() find amiss with their arguments, or NOTHING. */
    private int findingForTold(int s, int curtain) {
        if (!isSheet(s)) {
            return BEYOND;
        }
        if (sheets[s].isMissing()) {
            return MISSING;
        }
        return isCurtain(curtain) ? NOTHING : BEYOND;
    }

    /** Whether the probe's HIGH, by THE LIST of the trial, goes as a sheet tells. */
    private boolean isProbeAsTold(Sheet told) {
        for (int n = 0; n < told.length; n++) {
            if (told.numbers[n] != ANY_HIGH && told.numbers[n] != probe.high) {
                return false;
            }
            probe.passBeat(trial.sceneIn(n), trial.fire);
        }
        return true;
    }

    private static int commonDivisorWithScenes(int number) {
        for (int divisor = SCENES; divisor > 1; divisor--) {
            if (SCENES % divisor == 0 && number % divisor == 0) {
                return divisor;
            }
        }
        return 1;
    }

    /** One CURTAIN. It looks at no other one, so that it may go by BEATS alone. */
    private static final class Curtain {
        int kind;
        int mood;
        int likes;
        int high;
        int tied;
        int downs;

        void beNew(int newKind) {
            kind = newKind;
            mood = FIRST_MOOD;
            likes = 0;
            high = MOST_HIGH;
            tied = 0;
            downs = 0;
        }

        void take(Curtain other) {
            kind = other.kind;
            mood = other.mood;
            likes = other.likes;
            high = other.high;
            tied = other.tied;
            downs = other.downs;
        }

        int tell(int what, int scene, int fire) {
            switch (what) {
                case OF_KIND: return kind;
                case OF_MOOD: return mood;
                case OF_LIKES: return likes;
                case OF_HIGH: return high;
                case OF_TIED: return tied;
                case OF_DOWNS: return downs;
                case OF_GLADDENS: return gladdens();
                case OF_TIRES: return tires(scene);
                case OF_BEARS: return bears();
                case OF_FALLS: return falls(fire);
                default: return rises();
            }
        }

        void set(int what, int v) {
            switch (what) {
                case OF_KIND: kind = v; break;
                case OF_MOOD: mood = v; break;
                case OF_LIKES: likes = v; break;
                case OF_HIGH: high = v; break;
                case OF_TIED: tied = v; break;
                default: downs = v; break;
            }
        }

        boolean countsAs(int asked) {
            return (COUNTS_AS[kind] >> asked & 1) == 1;
        }

        int gladdens() {
            return kind == CLOUD ? GLADDENS[kind] + Integer.bitCount(likes) : GLADDENS[kind];
        }

        int tires(int scene) {
            if (kind == FRINGE && high == 0) {
                return 0;
            }
            // A CLOUD's 1 less than a DROP stands in its row; it is never below 0.
            return kind == DROP || kind == CLOUD ? TIRES[kind] + (scene & 1) : TIRES[kind];
        }

        int bears() {
            return BEARS[kind];
        }

        int falls(int fire) {
            return kind == FRINGE && fire == 1 ? FALLS[kind] + FRINGE_FALLS_IN_FIRE : FALLS[kind];
        }

        int rises() {
            return RISES[kind];
        }

        void getPulled(int hands) {
            high = Math.min(MOST_HIGH, high + hands / 10 + rises());
            mood = Math.max(0, mood - hands / 5);
        }

        /** A BEAT goes by; whether it came down. */
        boolean passBeat(int scene, int fire) {
            feel(scene);
            if (tied == 1) {
                return false;
            }
            boolean wasUp = high > 0;
            if (fire == 1 || mood < bears()) {
                high = Math.max(0, high - falls(fire));
            } else {
                high = Math.min(MOST_HIGH, high + rises());
            }
            boolean cameDown = wasUp && high == 0;
            if (cameDown) {
                comeDown(fire);
            }
            return cameDown;
        }

        private void feel(int scene) {
            if ((likes >> scene & 1) == 1) {
                mood = Math.min(MOST_MOOD, mood + gladdens());
            } else {
                mood = Math.max(0, mood - tires(scene));
            }
        }

        // A FIRE gives it no relief: only a SCENE that is cut does.
        private void comeDown(int fire) {
            downs = Math.min(MOST_DOWNS, downs + 1);
            if (fire == 0) {
                mood = Math.min(MOST_MOOD, mood + MOOD_BY_CUT);
            }
        }
    }

    /** All that image() keeps. */
    private static final class House {
        int fire;
        int cut;
        int saved;
        int beat;
        int z = 1;
        int hung;
        final int[] list = new int[PLACES];
        final int[] spots = new int[SPOTS];
        final Curtain[] curtains = new Curtain[MOST_CURTAINS];

        House() {
            for (int i = 0; i < PLACES; i++) {
                list[i] = i;
            }
            for (int i = 0; i < SPOTS; i++) {
                spots[i] = NOTHING;
            }
            for (int c = 0; c < MOST_CURTAINS; c++) {
                curtains[c] = new Curtain();
            }
        }

        void take(House other) {
            fire = other.fire;
            cut = other.cut;
            saved = other.saved;
            beat = other.beat;
            z = other.z;
            hung = other.hung;
            System.arraycopy(other.list, 0, list, 0, PLACES);
            System.arraycopy(other.spots, 0, spots, 0, SPOTS);
            for (int c = 0; c < hung; c++) {
                curtains[c].take(other.curtains[c]);
            }
        }

        boolean isFull() {
            return hung >= MOST_CURTAINS;
        }

        /** A new CURTAIN; only behind isFull(). */
        Curtain hang(int kind) {
            Curtain fresh = curtains[hung];
            fresh.beNew(kind);
            hung++;
            return fresh;
        }

        /** The place of THE LIST n BEATS on. */
        int placeIn(int n) {
            return Math.min(MOST_BEAT, beat + n) % PLACES;
        }

        int sceneIn(int n) {
            return list[placeIn(n)];
        }

        void passBeats(int n) {
            for (int k = 0; k < n; k++) {
                passBeat();
            }
        }

        void passBeat() {
            int scene = sceneIn(0);
            for (int c = 0; c < hung; c++) {
                if (curtains[c].passBeat(scene, fire)) {
                    tellDown();
                }
            }
            beat = Math.min(MOST_BEAT, beat + 1);
        }

        private void tellDown() {
            if (fire == 1) {
                saved = Math.min(MOST_SAVED, saved + SAVED_BY_ONE);
            } else {
                cut = Math.min(MOST_CUT, cut + 1);
            }
        }

        int draw() {
            z = z * DRAW_TIMES + DRAW_MORE;
            return z >>> 8;
        }

        int thoseDown() {
            int set = 0;
            for (int c = 0; c < hung; c++) {
                set |= curtains[c].high == 0 ? 1 << c : 0;
            }
            return set;
        }

        int thoseWeary() {
            int set = 0;
            for (int c = 0; c < hung; c++) {
                set |= curtains[c].mood < curtains[c].bears() ? 1 << c : 0;
            }
            return set;
        }

        int allMoods() {
            int sum = 0;
            for (int c = 0; c < hung; c++) {
                sum += curtains[c].mood;
            }
            return sum;
        }

        int allLikes() {
            int set = 0;
            for (int c = 0; c < hung; c++) {
                set |= curtains[c].likes;
            }
            return set;
        }

        boolean isPleasedBy(int scenes) {
            for (int c = 0; c < hung; c++) {
                int likes = curtains[c].likes;
                if (likes != 0 && (likes & scenes) == 0) {
                    return false;
                }
            }
            return true;
        }

        int heldSpots() {
            int held = 0;
            for (int spot : spots) {
                held += spot != NOTHING ? 1 : 0;
            }
            return held;
        }
    }

    /** A row of numbers, signed, of so many bits; 0 bits: it is MISSING. */
    private static final class Sheet {
        int bits;
        int length;
        final int[] numbers = new int[MOST_NUMBERS];

        boolean isMissing() {
            return bits == 0;
        }

        void lay(int newBits, int newLength) {
            bits = newBits;
            length = newLength;
            for (int i = 0; i < newLength; i++) {
                numbers[i] = 0;
            }
        }

        void put(int i, int v) {
            if (bits == 8) {
                numbers[i] = (byte) v;
            } else if (bits == 16) {
                numbers[i] = (short) v;
            } else {
                numbers[i] = v;
            }
        }

        boolean has(int from, int n) {
            return n >= 0 && from >= 0 && from <= length - n;
        }
    }

    /** THE TAPE, and the TOKEN of it that is at hand while a TEXT is read. */
    private static final class Tape {
        private static final int WORD = 0;
        private static final int NUMBER = 1;
        private static final int SIGN = 2;
        private static final int END = 3;
        private static final int OTHER = 4;
        private static final int ABOVE_ALL_NUMBERS = 10000;

        final byte[] bytes = new byte[MOST_BYTES];
        int length;

        // The TOKEN at hand: what it is, its first byte's place, that behind its last, its value.
        private int token;
        private int begin;
        private int end;
        private int value;

        void add(byte b) {
            if (length < MOST_BYTES) {
                bytes[length] = b;
                length++;
            }
        }

        /**
         * Does to a house what the TEXT tells: how many ITEMS, or -1 less the FAULT. Where reading
         * stops, the TOKEN at hand is the one that can't stand there; the house is half done then.
         */
        int readInto(House house) {
            end = 0;
            step();
            // An ITEM takes a byte at least, so there are no more of them than bytes.
            for (int items = 1; items <= MOST_BYTES; items++) {
                int kind = kindAtHand();
                boolean stands = kind == NOTHING ? readOther(house) : readCurtain(house, kind);
                if (stands && token == END) {
                    return items;
                }
                if (!stands || token != SIGN) {
                    break;
                }
                step();
            }
            return -1 - begin;
        }

        /** An ITEM that is no CURTAIN. */
        private boolean readOther(House house) {
            if (takeWord("scene")) {
                return readScene(house);
            }
            if (takeWord("fire")) {
                house.fire = 1;
                return true;
            }
            if (takeWord("out")) {
                house.fire = 0;
                return true;
            }
            return false;
        }

        private boolean readCurtain(House house, int kind) {
            if (house.isFull()) {
                return false;
            }
            step();
            Curtain fresh = house.hang(kind);
            if (!readPart(fresh, "mood", OF_MOOD) || !readPart(fresh, "likes", OF_LIKES)
                    || !readPart(fresh, "high", OF_HIGH)) {
                return false;
            }
            fresh.tied = takeWord("tied") ? 1 : 0;
            return true;
        }

        /** Perhaps a WORD and its NUMBER; false only where the NUMBER can't stand. */
        private boolean readPart(Curtain fresh, String word, int what) {
            if (!takeWord(word)) {
                return true;
            }
            int number = takeNumber(MOST_OF[what]);
            if (number == NOTHING) {
                return false;
            }
            fresh.set(what, number);
            return true;
        }

        private boolean readScene(House house) {
            int place = takeNumber(PLACES - 1);
            if (place == NOTHING) {
                return false;
            }
            int scene = takeNumber(SCENES - 1);
            if (scene == NOTHING) {
                return false;
            }
            house.list[place] = scene;
            return true;
        }

        private int kindAtHand() {
            if (isWord("curtain")) {
                return CURTAIN;
            }
            if (isWord("velvet")) {
                return VELVET;
            }
            if (isWord("gauze")) {
                return GAUZE;
            }
            if (isWord("drop")) {
                return DROP;
            }
            if (isWord("cloud")) {
                return CLOUD;
            }
            if (isWord("iron")) {
                return IRON;
            }
            return isWord("fringe") ? FRINGE : NOTHING;
        }

        private boolean isWord(String word) {
            if (token != WORD || end - begin != word.length()) {
                return false;
            }
            for (int i = 0; i < word.length(); i++) {
                if (bytes[begin + i] != word.charAt(i)) {
                    return false;
                }
            }
            return true;
        }

        private boolean takeWord(String word) {
            boolean isAtHand = isWord(word);
            if (isAtHand) {
                step();
            }
            return isAtHand;
        }

        /** The NUMBER at hand, or NOTHING if there is none or it is above most. */
        private int takeNumber(int most) {
            if (token != NUMBER || value > most) {
                return NOTHING;
            }
            int taken = value;
            step();
            return taken;
        }

        /** The next TOKEN comes to hand; at the end it begins behind the last byte. */
        private void step() {
            begin = end;
            while (begin < length && bytes[begin] == ' ') {
                begin++;
            }
            token = begin < length ? tokenBegunBy(bytes[begin]) : END;
            end = Math.min(length, begin + 1);
            while ((token == WORD || token == NUMBER) && end < length
                    && tokenBegunBy(bytes[end]) == token) {
                end++;
            }
            value = token == NUMBER ? valueAtHand() : 0;
        }

        private static int tokenBegunBy(byte b) {
            if (b >= 'a' && b <= 'z') {
                return WORD;
            }
            if (b >= '0' && b <= '9') {
                return NUMBER;
            }
            return b == ';' ? SIGN : OTHER;
        }

        // It stops above all that a NUMBER may be, lest it wrap around.
        private int valueAtHand() {
            int sum = 0;
            for (int i = begin; i < end; i++) {
                sum = Math.min(ABOVE_ALL_NUMBERS, sum * 10 + bytes[i] - '0');
            }
            return sum;
        }
    }
}
