/** The boundary cases of SPOTS and SHEETS and of promises 31 to 37, sentence by sentence. */
public final class SheetsBoundsTest {
    private static final int MIN = Integer.MIN_VALUE;
    private static final int MAX = Integer.MAX_VALUE;
    private static final int[] NO_SHEET = {-1, 4, MIN, MAX};
    private static final String EIGHT = "iron;iron;iron;iron;iron;iron;iron;iron";

    public static void main(String[] args) {
        spots();
        sheets();
        holdTells();
        holdBeyond();
        asTells();
        asBeyond();
        asMissing();
        asKind();
        sheetHas();
        sheetAllZero();
        sheetIsMissing();
        sheetNoSuch();
        sheetSize();
        sheetAboveForty();
        writeLowestBits();
        writeNoSuchSheet();
        writeMissing();
        writeNoSuchNumber();
        copyComes();
        copyAsTheyWere();
        copyNoSuchSheet();
        copyMissing();
        copyKind();
        copyNotSoMany();
        copyBelowZero();
        loadBecomes();
        loadEnds();
        loadNoSuchSheet();
        loadMissing();
        judgeSo();
        judgeNotSo();
        judgeNoSuchSheet();
        judgeMissing();
        Due.end();
    }

    private static void spots() {
        Doc.says(0, "SPOTS 0 to 9 hold a CURTAIN or nothing (at first).");
        CurtainHouse x = Due.house("iron;drop");
        for (int spot = 0; spot <= 9; spot++) {
            Due.due("as(" + spot + ", 0), at first", x.as(spot, 0), Due.MISSING);
            Due.due("count(7)", x.count(7), spot);
            Due.due("hold(" + spot + ", 1)", x.hold(spot, 1), 1);
            Due.due("as(" + spot + ", 0)", x.as(spot, 0), 1);
        }
        Due.due("count(7), all", x.count(7), 10);
        Due.due("hold(10, 1)", x.hold(10, 1), Due.BEYOND);
    }

    private static void sheets() {
        Doc.says(0, "SHEETS 0 to 3: rows of at most 40 numbers of 8, 16 or 32 bits, or MISSING (at first).");
        CurtainHouse x = Due.house("iron");
        for (int s = 0; s <= 3; s++) {
            Due.due("judge(" + s + "), at first", x.judge(s), Due.MISSING);
            for (int bits = 8; bits <= 32; bits *= 2) {
                Due.due("sheet(" + s + ", " + bits + ", 40)", x.sheet(s, bits, 40), 40);
                Due.due("write, the last", x.write(s, 39, 1), 1);
                Due.due("write, one more", x.write(s, 40, 1), Due.BEYOND);
                Due.due("sheet(.., 41)", x.sheet(s, bits, 41), Due.BEYOND);
            }
        }
        Due.due("sheet(4, 8, 1)", x.sheet(4, 8, 1), Due.BEYOND);
    }

    private static void holdTells() {
        Doc.says(31, "A SPOT holds a CURTAIN, or nothing (-1): 1.");
        CurtainHouse x = Due.house(EIGHT);
        Due.due("hold(0, 0), the first", x.hold(0, 0), 1);
        Due.due("hold(9, 7), the last", x.hold(9, 7), 1);
        Due.due("as(0, 0)", x.as(0, 0), 0);
        Due.due("as(9, 0)", x.as(9, 0), 7);
        Due.due("hold(9, 3), another one", x.hold(9, 3), 1);
        Due.due("as(9, 0)", x.as(9, 0), 3);
        Due.due("hold(5, 3), the same in two", x.hold(5, 3), 1);
        Due.due("count(7)", x.count(7), 3);
        Due.due("hold(9, -1)", x.hold(9, -1), 1);
        Due.due("hold(9, -1), nothing again", x.hold(9, -1), 1);
        Due.due("as(9, 0)", x.as(9, 0), Due.MISSING);
        Due.due("count(7)", x.count(7), 2);
        Due.due("hold(0, -1), without CURTAINS", new CurtainHouse().hold(0, -1), 1);
    }

    private static void holdBeyond() {
        Doc.says(31, "BEYOND.");
        Twins t = new Twins("iron;drop");
        for (int k : new int[] {-1, 10, MIN, MAX}) {
            t.beyond("hold(" + k + ", 0)", x -> x.hold(k, 0)).beyond("hold(" + k + ", -1)", x -> x.hold(k, -1));
        }
        for (int k : new int[] {-2, 2, MIN, MAX}) {
            t.beyond("hold(2, " + k + ")", x -> x.hold(2, k));
        }
        t.stayAlike();
        new Twins("").beyond("no CURTAINS", x -> x.hold(0, 0)).stayAlike();
        new Twins(EIGHT).beyond("hold(2, 8)", x -> x.hold(2, 8)).stayAlike();
    }

    private static void asTells() {
        Doc.says(32, "What a SPOT holds as one of a kind (0 to 6): the number of the CURTAIN.");
        CurtainHouse x = Due.house("curtain;velvet;gauze;drop;cloud;iron;fringe;iron");
        for (int kind = 0; kind <= 6; kind++) {
            x.hold(kind, kind);
            Due.due("as its own KIND", x.as(kind, kind), kind);
            Due.due("as a CURTAIN", x.as(kind, 0), kind);
        }
        x.hold(9, 7);
        Due.due("as(9, 5), the last number", x.as(9, 5), 7);
        x.change(0, 0, 4);
        Due.due("a CLOUD by a change", x.as(0, 3), 0);
    }

    private static void asBeyond() {
        Doc.says(32, "BEYOND.");
        // SPOT 0 holds nothing: BEYOND is told ahead of MISSING; SPOT 2 holds a DROP: ahead of KIND.
        Twins t = new Twins("iron;drop");
        for (int k : new int[] {-1, 7, MIN, MAX}) {
            t.beyond("as(0, " + k + ")", x -> x.as(0, k)).beyond("as(2, " + k + ")", x -> x.as(2, k));
        }
        for (int k : new int[] {-1, 10, MIN, MAX}) {
            t.beyond("as(" + k + ", 0)", x -> x.as(k, 0));
        }
        t.stayAlike();
    }

    private static void asMissing() {
        Doc.says(32, "MISSING: it holds nothing.");
        Twins t = new Twins("iron;drop");
        for (int kind = 0; kind <= 6; kind++) {
            int asked = kind;
            t.refuses("as(0, " + kind + ")", Due.MISSING, x -> x.as(0, asked));
        }
        t.refuses("as(9, 0)", Due.MISSING, x -> x.as(9, 0)).stayAlike();
        CurtainHouse x = Due.house("iron");
        x.image();
        x.hold(3, 0);
        x.undo();
        Due.due("nothing again, behind undo()", x.as(3, 0), Due.MISSING);
    }

    private static void asKind() {
        Doc.says(32, "KIND: it isn't of that kind, nor of one under it.");
        int[][] not = {{1, 2, 3, 4, 5, 6}, {2, 3, 4, 5, 6}, {1, 3, 4, 5, 6}, {1, 4, 5, 6}, {1, 5, 6}, {1, 2, 3, 4, 6},
            {2, 3, 4, 5}};
        for (int kind = 0; kind <= 6; kind++) {
            int own = kind;
            Twins t = new Twins("iron");
            t.both(x -> x.change(0, 0, own));
            for (int asked : not[kind]) {
                t.refuses("one of " + kind + " as " + asked, Due.KIND, x -> x.as(2, asked));
            }
            t.stayAlike();
        }
    }

    private static void sheetHas() {
        Doc.says(33, "A sheet has n numbers, all 0, of 8, 16 or 32 bits; bits 0: it is MISSING: n (0 if it is MISSING).");
        for (int s = 0; s <= 3; s++) {
            for (int bits = 8; bits <= 32; bits *= 2) {
                for (int n : new int[] {0, 1, 39, 40}) {
                    CurtainHouse x = new CurtainHouse();
                    Due.due("sheet(" + s + ", " + bits + ", " + n + ")", x.sheet(s, bits, n), n);
                    Due.due("it has so many", x.copy(s, 0, s, 0, n), n);
                    Due.due("it hasn't one more", x.copy(s, 0, s, 0, n + 1), Due.BEYOND);
                    Due.due("it isn't MISSING", x.load(s), 0);
                }
            }
        }
    }

    private static void sheetAllZero() {
        Doc.says(33, "all 0");
        CurtainHouse x = Due.house("iron high 0;iron high 0;iron high 0;iron high 0;iron high 0;iron high 0");
        Due.tell(x, 0, 32, 5, 6, 7, 8, 9, 10);
        Due.due("sheet, fewer", x.sheet(0, 32, 3), 3);
        Due.due("judge, all 0", x.judge(0), 0);
        Due.due("sheet, more again", x.sheet(0, 32, 6), 6);
        Due.due("judge, all 0, those that came back, too", x.judge(0), 0);
        Due.tell(x, 0, 32, 5, 6, 7, 8, 9, 10);
        Due.due("sheet, as many again", x.sheet(0, 8, 6), 6);
        Due.due("judge, all 0", x.judge(0), 0);
        Due.tell(x, 1, 8, 5, 6);
        x.sheet(0, 8, 6);
        Due.due("judge, another one isn't touched", x.judge(1), 1);
    }

    private static void sheetIsMissing() {
        Doc.says(33, "bits 0: it is MISSING: n (0 if it is MISSING).");
        for (int n : new int[] {0, 1, 40}) {
            CurtainHouse x = Due.house("iron");
            Due.tell(x, 2, 16, 5, 6);
            Due.due("sheet(2, 0, " + n + ")", x.sheet(2, 0, n), 0);
            Due.due("judge(2)", x.judge(2), Due.MISSING);
            Due.due("sheet(2, 0, " + n + ") again", x.sheet(2, 0, n), 0);
            Due.due("sheet(2, 16, 2)", x.sheet(2, 16, 2), 2);
            Due.due("all 0 then", x.load(2), 1);
            Due.due("of(0, 2)", x.of(0, 2), 0);
        }
    }

    private static void sheetNoSuch() {
        Doc.says(33, "BEYOND: no such sheet, other bits.");
        Twins t = new Twins("iron");
        for (int k : NO_SHEET) {
            t.beyond("sheet(" + k + ", 8, 1)", x -> x.sheet(k, 8, 1));
            t.beyond("sheet(" + k + ", 0, -1), ahead of SIZE", x -> x.sheet(k, 0, -1));
        }
        for (int k : new int[] {-1, 1, 7, 9, 15, 17, 24, 31, 33, 64, -8, MIN, MAX}) {
            t.beyond("sheet(0, " + k + ", 1)", x -> x.sheet(0, k, 1));
            t.beyond("sheet(0, " + k + ", -1), ahead of SIZE", x -> x.sheet(0, k, -1));
        }
        t.stayAlike();
    }

    private static void sheetSize() {
        Doc.says(33, "SIZE: n is below 0 (also with bits 0).");
        Twins t = new Twins("iron");
        for (int bits : new int[] {0, 8, 16, 32}) {
            t.refuses("sheet(0, " + bits + ", -1)", Due.SIZE, x -> x.sheet(0, bits, -1));
            t.refuses("sheet(0, " + bits + ", MIN)", Due.SIZE, x -> x.sheet(0, bits, MIN));
            t.refuses("sheet(3, " + bits + ", -41)", Due.SIZE, x -> x.sheet(3, bits, -41));
        }
        t.stayAlike();
    }

    // "(also with bits 0)" stands at SIZE alone, yet nothing takes bits 0 out of this sentence.
    private static void sheetAboveForty() {
        Doc.says(33, "BEYOND: n is above 40.");
        Twins t = new Twins("iron");
        for (int bits : new int[] {0, 8, 16, 32}) {
            t.beyond("sheet(0, " + bits + ", 41)", x -> x.sheet(0, bits, 41));
            t.beyond("sheet(3, " + bits + ", MAX)", x -> x.sheet(3, bits, MAX));
        }
        t.stayAlike();
    }

    /** What a sheet of so many bits makes of a number, seen by load(): -1 if it is none of 0 to 4095. */
    private static int loaded(int bits, int v) {
        CurtainHouse x = Due.house("iron likes 77");
        x.sheet(0, bits, 1);
        Due.due("write(0, 0, " + v + ")", x.write(0, 0, v), 1);
        return x.load(0) == 1 ? x.of(0, 2) : -1;
    }

    private static void writeLowestBits() {
        Doc.says(34, "Number i of a sheet becomes v (its lowest bits): 1.");
        int[][] rows = {
            {8, 0, 0}, {8, 127, 127}, {8, 128, -1}, {8, 255, -1}, {8, 256, 0}, {8, 257, 1}, {8, 0x7FFFFF05, 5},
            {8, 0x80000005, 5}, {8, -1, -1}, {8, -251, 5}, {16, 4095, 4095}, {16, 4096, -1}, {16, 32767, -1},
            {16, 32768, -1}, {16, 65535, -1}, {16, 65536, 0}, {16, 65541, 5}, {16, 0x80000FFF, 4095}, {16, -65531, 5},
            {32, 4095, 4095}, {32, 4096, -1}, {32, 65541, -1}, {32, MIN, -1}, {32, MAX, -1}, {32, -1, -1}};
        for (int[] row : rows) {
            Due.due(row[1] + " in " + row[0] + " bits", loaded(row[0], row[1]), row[2]);
        }
        CurtainHouse x = Due.house("iron;iron;iron");
        Due.tell(x, 1, 16, 1, 2, 3);
        Due.due("write, the last", x.write(1, 2, 9), 1);
        Due.due("write, the first", x.write(1, 0, 8), 1);
        Due.due("load(1)", x.load(1), 3);
        Due.due("the one between stays", x.of(0, 2) * 100 + x.of(1, 2) * 10 + x.of(2, 2), 829);
    }

    private static void writeNoSuchSheet() {
        Doc.says(34, "BEYOND: no such sheet.");
        Twins t = new Twins("iron");
        for (int k : NO_SHEET) {
            t.beyond("write(" + k + ", 0, 1)", x -> x.write(k, 0, 1));
        }
        t.stayAlike();
    }

    private static void writeMissing() {
        Doc.says(34, "MISSING.");
        new Twins("iron").refuses("write(3, 0, 1)", Due.MISSING, x -> x.write(3, 0, 1))
                .refuses("ahead of no such number", Due.MISSING, x -> x.write(3, -1, 1))
                .refuses("ahead of no such number", Due.MISSING, x -> x.write(3, 40, 1)).stayAlike();
    }

    private static void writeNoSuchNumber() {
        Doc.says(34, "BEYOND: no such number.");
        Twins t = new Twins("iron");
        for (int k : new int[] {-1, 3, 39, 40, MIN, MAX}) {
            t.beyond("write(0, " + k + ", 1)", x -> x.write(0, k, 1));
        }
        t.beyond("write(2, 0, 1), no numbers", x -> x.write(2, 0, 1)).stayAlike();
        CurtainHouse x = new CurtainHouse();
        x.sheet(0, 8, 40);
        Due.due("write(0, 39, 1)", x.write(0, 39, 1), 1);
        Due.due("write(0, 40, 1)", x.write(0, 40, 1), Due.BEYOND);
    }

    /** All numbers of a sheet, as LIKES of eight CURTAINS. */
    private static void has(String call, CurtainHouse x, int s, int... want) {
        Due.due(call + ": load", x.load(s), want.length);
        for (int c = 0; c < want.length; c++) {
            Due.due(call + ": number " + c, x.of(c, 2), want[c]);
        }
    }

    private static void copyComes() {
        Doc.says(35, "n numbers of a sheet from one on come to another one from one on (as they all were): n.");
        CurtainHouse x = Due.house(EIGHT);
        Due.tell(x, 0, 16, 1, 2, 3, 4);
        Due.tell(x, 3, 16, 11, 12, 13);
        Due.due("none", x.copy(0, 0, 3, 0, 0), 0);
        Due.due("none, behind the last of both", x.copy(0, 4, 3, 3, 0), 0);
        has("none came", x, 3, 11, 12, 13);
        Due.due("the last to the first", x.copy(0, 3, 3, 0, 1), 1);
        has("one came", x, 3, 4, 12, 13);
        Due.due("to the last", x.copy(0, 0, 3, 2, 1), 1);
        has("one came", x, 3, 4, 12, 1);
        Due.due("all of it", x.copy(3, 0, 0, 1, 3), 3);
        has("all came", x, 0, 1, 4, 12, 1);
        has("it stays itself", x, 3, 4, 12, 1);
        x.sheet(1, 8, 40);
        x.sheet(2, 8, 40);
        x.write(1, 39, 7);
        Due.due("all forty", x.copy(1, 0, 2, 0, 40), 40);
        Due.due("the fortieth to the first", x.copy(2, 39, 2, 0, 1), 1);
        x.load(2);
        Due.due("of(0, 2)", x.of(0, 2), 7);
    }

    private static void copyAsTheyWere() {
        Doc.says(35, "(as they all were)");
        CurtainHouse x = Due.house(EIGHT);
        Due.tell(x, 0, 32, 1, 2, 3, 4, 5);
        Due.due("up by one", x.copy(0, 0, 0, 1, 4), 4);
        has("up by one", x, 0, 1, 1, 2, 3, 4);
        Due.tell(x, 0, 32, 1, 2, 3, 4, 5);
        Due.due("down by one", x.copy(0, 1, 0, 0, 4), 4);
        has("down by one", x, 0, 2, 3, 4, 5, 5);
        Due.due("onto itself", x.copy(0, 0, 0, 0, 5), 5);
        has("onto itself", x, 0, 2, 3, 4, 5, 5);
    }

    private static void copyNoSuchSheet() {
        Doc.says(35, "BEYOND: no such sheet (either).");
        Twins t = new Twins("iron");
        for (int k : NO_SHEET) {
            t.beyond("copy(" + k + ", 0, 0, 0, 1)", x -> x.copy(k, 0, 0, 0, 1));
            t.beyond("copy(0, 0, " + k + ", 0, 1)", x -> x.copy(0, 0, k, 0, 1));
            // Sheet 3 is MISSING: BEYOND is told ahead of that.
            t.beyond("copy(3, 0, " + k + ", 0, 1)", x -> x.copy(3, 0, k, 0, 1));
            t.beyond("copy(" + k + ", 0, 3, 0, 1)", x -> x.copy(k, 0, 3, 0, 1));
        }
        t.stayAlike();
    }

    private static void copyMissing() {
        Doc.says(35, "MISSING: one is.");
        new Twins("iron").refuses("from one", Due.MISSING, x -> x.copy(3, 0, 0, 0, 0))
                .refuses("to one", Due.MISSING, x -> x.copy(0, 0, 3, 0, 0))
                .refuses("both", Due.MISSING, x -> x.copy(3, 0, 3, 0, 0))
                .refuses("ahead of BEYOND", Due.MISSING, x -> x.copy(3, -1, 0, 0, 99))
                .refuses("ahead of BEYOND", Due.MISSING, x -> x.copy(0, 0, 3, 0, -1)).stayAlike();
    }

    private static void copyKind() {
        Doc.says(35, "KIND: they are not of as many bits.");
        Twins t = new Twins("iron");
        for (int s = 0; s < 3; s++) {
            for (int other = 0; other < 3; other++) {
                int from = s;
                int to = other;
                if (s != other) {
                    t.refuses("copy(" + s + ", 0, " + other + ", 0, 0)", Due.KIND, x -> x.copy(from, 0, to, 0, 0));
                    t.refuses("ahead of BEYOND", Due.KIND, x -> x.copy(from, -1, to, 99, 99));
                }
            }
        }
        t.stayAlike();
    }

    private static void copyNotSoMany() {
        Doc.says(35, "BEYOND: one has not so many, ");
        // Sheet 0 has three numbers of 8 bits, sheet 3 gets two.
        Twins t = new Twins("iron").both(x -> x.sheet(3, 8, 2));
        t.beyond("3 to 2", x -> x.copy(0, 0, 3, 0, 3)).beyond("2 to 3", x -> x.copy(3, 0, 0, 0, 3))
                .beyond("from 2 on", x -> x.copy(0, 2, 3, 0, 2)).beyond("to 1 on", x -> x.copy(0, 0, 3, 1, 2))
                .beyond("none, from 4 on", x -> x.copy(0, 4, 3, 0, 0))
                .beyond("none, to 3 on", x -> x.copy(0, 0, 3, 3, 0))
                .beyond("MAX of them", x -> x.copy(0, 0, 3, 0, MAX))
                .beyond("MAX of them from 1 on", x -> x.copy(0, 1, 3, 1, MAX))
                .beyond("one from MAX on", x -> x.copy(0, MAX, 3, 0, 1))
                .beyond("one to MAX on", x -> x.copy(0, 0, 3, MAX, 1))
                .beyond("MAX from MAX on", x -> x.copy(0, MAX, 3, MAX, MAX)).stayAlike();
    }

    private static void copyBelowZero() {
        Doc.says(35, "or from, to or n is below 0.");
        Twins t = new Twins("iron");
        for (int k : new int[] {-1, -3, MIN}) {
            t.beyond("from " + k, x -> x.copy(0, k, 0, 0, 1)).beyond("to " + k, x -> x.copy(0, 0, 0, k, 1))
                    .beyond("n " + k, x -> x.copy(0, 0, 0, 0, k)).beyond("n 0, from " + k, x -> x.copy(0, k, 0, 0, 0))
                    .beyond("n 0, to " + k, x -> x.copy(0, 0, 0, k, 0))
                    .beyond("n " + k + " from 3 on", x -> x.copy(0, 3, 0, 3, k));
        }
        t.stayAlike();
    }

    private static void loadBecomes() {
        Doc.says(36, "Numbers of a sheet, from its begin on, become what CURTAINS 0, 1, .. LIKE: how many came.");
        CurtainHouse x = Due.house("iron likes 7;iron likes 7;iron likes 7");
        x.sheet(0, 8, 0);
        Due.due("no numbers", x.load(0), 0);
        Due.tell(x, 0, 16, 4095);
        has("one", x, 0, 4095);
        Due.due("of(1, 2)", x.of(1, 2), 7);
        Due.tell(x, 0, 16, 0, 1, 4095);
        has("as many as there are", x, 0, 0, 1, 4095);
        Due.due("MOODS stay", x.now(5), 180);
    }

    private static void loadEnds() {
        Doc.says(36, "It ends at the first that isn't 0 to 4095, or for which there is no CURTAIN.");
        CurtainHouse x = Due.house("iron likes 7;iron likes 7;iron likes 7");
        Due.tell(x, 0, 32, 4096, 1, 2);
        Due.due("at once, by 4096", x.load(0), 0);
        Due.tell(x, 0, 32, -1, 1, 2);
        Due.due("at once, by -1", x.load(0), 0);
        Due.due("LIKES stay", x.of(0, 2) + x.of(1, 2) + x.of(2, 2), 21);
        Due.tell(x, 0, 32, 5, 6, MAX);
        Due.due("at the last, by MAX", x.load(0), 2);
        Due.due("those ahead of it came", x.of(0, 2) * 100 + x.of(1, 2) * 10 + x.of(2, 2), 567);
        Due.tell(x, 0, 32, 1, MIN, 3);
        Due.due("in between, by MIN", x.load(0), 1);
        Due.due("those behind it didn't", x.of(0, 2) * 100 + x.of(1, 2) * 10 + x.of(2, 2), 167);
        Due.tell(x, 0, 32, 1, 2, 3, 4);
        Due.due("a fourth number", x.load(0), 3);
        x.sheet(0, 8, 40);
        Due.due("forty numbers", x.load(0), 3);
        Due.due("forty numbers, no CURTAINS", loadForty(new CurtainHouse()), 0);
        Due.due("forty numbers, eight CURTAINS", loadForty(Due.house(EIGHT)), 8);
        Due.due("no finding", x.status(-1), 0);
    }

    private static int loadForty(CurtainHouse x) {
        x.sheet(0, 8, 40);
        return x.load(0);
    }

    private static void loadNoSuchSheet() {
        Doc.says(36, "BEYOND: no such sheet.");
        Twins t = new Twins("iron");
        for (int k : NO_SHEET) {
            t.beyond("load(" + k + ")", x -> x.load(k));
        }
        t.stayAlike();
    }

    private static void loadMissing() {
        Doc.says(36, "MISSING.");
        new Twins("iron").refuses("load(3)", Due.MISSING, x -> x.load(3)).stayAlike();
        new Twins("").refuses("load(3), no CURTAINS", Due.MISSING, x -> x.load(3)).stayAlike();
    }

    private static void judgeSo() {
        Doc.says(37, "THE READER: numbers of a sheet are HIGH of CURTAINS 0, 1, ..: 0 if so; ");
        CurtainHouse x = Due.house("iron high 0;iron;iron high 19");
        x.sheet(0, 8, 0);
        Due.due("no numbers", x.judge(0), 0);
        Due.tell(x, 0, 8, 0);
        Due.due("fewer numbers", x.judge(0), 0);
        for (int bits = 8; bits <= 32; bits *= 2) {
            Due.tell(x, 0, bits, 0, 20, 19);
            Due.due("as many numbers, " + bits + " bits", x.judge(0), 0);
        }
        x.sheet(0, 8, 0);
        CurtainHouse nobody = new CurtainHouse();
        nobody.sheet(0, 8, 0);
        Due.due("no numbers, no CURTAINS", nobody.judge(0), 0);
        Due.due("no finding", x.status(-1), 0);
    }

    private static void judgeNotSo() {
        Doc.says(37, "else 1 and the place of the first that isn't so.");
        CurtainHouse x = Due.house("iron high 0;iron;iron high 19");
        int[][] told = {{1, 20, 19}, {0, 19, 19}, {0, 21, 19}, {0, 20, 20}, {0, 20, 19, 0}, {1, 1, 1}, {0, -1, 19}};
        int[] want = {1, 2, 2, 3, 4, 1, 2};
        for (int k = 0; k < told.length; k++) {
            Due.tell(x, 1, 16, told[k]);
            Due.due("judge, row " + k, x.judge(1), want[k]);
        }
        Due.tell(x, 1, 32, 256, 20, 19);
        Due.due("256 isn't 0 in 32 bits", x.judge(1), 1);
        Due.tell(x, 1, 8, 256, 20, 19);
        Due.due("256 is 0 in 8 bits", x.judge(1), 0);
        CurtainHouse eight = Due.house("iron high 0;iron high 0;iron high 0;iron high 0;iron high 0;iron high 0");
        eight.sheet(0, 8, 40);
        Due.due("forty numbers, six CURTAINS", eight.judge(0), 7);
        CurtainHouse nobody = new CurtainHouse();
        nobody.sheet(0, 8, 40);
        Due.due("forty numbers, no CURTAINS", nobody.judge(0), 1);
    }

    private static void judgeNoSuchSheet() {
        Doc.says(37, "BEYOND: no such sheet.");
        Twins t = new Twins("iron");
        for (int k : NO_SHEET) {
            t.beyond("judge(" + k + ")", x -> x.judge(k));
        }
        t.stayAlike();
    }

    private static void judgeMissing() {
        Doc.says(37, "MISSING.");
        new Twins("iron").refuses("judge(3)", Due.MISSING, x -> x.judge(3)).stayAlike();
        new Twins("").refuses("judge(3), no CURTAINS", Due.MISSING, x -> x.judge(3)).stayAlike();
    }
}
