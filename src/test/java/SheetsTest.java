/** Promises 31 to 37: hold, as, sheet, write, copy, load, judge. */
public final class SheetsTest {
    public static void main(String[] args) {
        hold();
        as();
        sheet();
        write();
        copyFindings();
        copy();
        load();
        judge();
        Due.end();
    }

    private static void hold() {
        CurtainHouse x = Due.house("curtain;iron");
        Due.due("hold(0, 1)", x.hold(0, 1), 1);
        Due.due("hold(9, 0)", x.hold(9, 0), 1);
        Due.due("count(7)", x.count(7), 2);
        Due.due("hold(10, 0)", x.hold(10, 0), Due.BEYOND);
        Due.due("hold(-1, 0)", x.hold(-1, 0), Due.BEYOND);
        Due.due("hold(0, 2)", x.hold(0, 2), Due.BEYOND);
        Due.due("hold(0, -2)", x.hold(0, -2), Due.BEYOND);
        Due.due("as(0, 0)", x.as(0, 0), 1);
        Due.due("as(9, 0)", x.as(9, 0), 0);
        Due.due("hold(0, -1)", x.hold(0, -1), 1);
        Due.due("hold(0, -1)", x.hold(0, -1), 1);
        Due.due("as(0, 0)", x.as(0, 0), Due.MISSING);
        Due.due("count(7)", x.count(7), 1);
    }

    private static void as() {
        int[][] under = {{0}, {1, 0}, {2, 0}, {3, 2, 0}, {4, 3, 2, 0}, {5, 0}, {6, 1, 0}};
        CurtainHouse x = Due.house("iron;iron;iron");
        x.hold(4, 2);
        for (int kind = 0; kind < 7; kind++) {
            x.change(2, 0, kind);
            for (int asked = 0; asked < 7; asked++) {
                int want = Due.KIND;
                for (int above : under[kind]) {
                    want = above == asked ? 2 : want;
                }
                Due.due("one of " + kind + " as " + asked, x.as(4, asked), want);
            }
        }
        Due.due("as(4, 7)", x.as(4, 7), Due.BEYOND);
        Due.due("as(4, -1)", x.as(4, -1), Due.BEYOND);
        Due.due("as(10, 0)", x.as(10, 0), Due.BEYOND);
        Due.due("as(-1, 0)", x.as(-1, 0), Due.BEYOND);
        Due.due("as(3, 7), BEYOND first", x.as(3, 7), Due.BEYOND);
        Due.due("as(3, 5)", x.as(3, 5), Due.MISSING);
    }

    private static void sheet() {
        CurtainHouse x = Due.house("curtain high 0");
        Due.due("sheet(4, 8, 1)", x.sheet(4, 8, 1), Due.BEYOND);
        Due.due("sheet(-1, 8, -1)", x.sheet(-1, 8, -1), Due.BEYOND);
        Due.due("sheet(0, 7, -1)", x.sheet(0, 7, -1), Due.BEYOND);
        Due.due("sheet(0, 64, 1)", x.sheet(0, 64, 1), Due.BEYOND);
        Due.due("sheet(0, -8, 1)", x.sheet(0, -8, 1), Due.BEYOND);
        Due.due("sheet(0, 24, 1)", x.sheet(0, 24, 1), Due.BEYOND);
        Due.due("sheet(0, 8, -1)", x.sheet(0, 8, -1), Due.SIZE);
        Due.due("sheet(0, 0, -1)", x.sheet(0, 0, -1), Due.SIZE);
        Due.due("sheet(0, 8, least)", x.sheet(0, 8, Integer.MIN_VALUE), Due.SIZE);
        Due.due("sheet(0, 8, 41)", x.sheet(0, 8, 41), Due.BEYOND);
        Due.due("sheet(0, 0, 41)", x.sheet(0, 0, 41), Due.BEYOND);
        Due.due("judge(0), still MISSING", x.judge(0), Due.MISSING);
        Due.due("sheet(0, 8, 40)", x.sheet(0, 8, 40), 40);
        Due.due("sheet(3, 32, 0)", x.sheet(3, 32, 0), 0);
        Due.due("judge(3), not MISSING", x.judge(3), 0);
        Due.due("sheet(0, 16, 1)", x.sheet(0, 16, 1), 1);
        Due.due("judge(0)", x.judge(0), 0);
        x.write(0, 0, 5);
        Due.due("judge(0)", x.judge(0), 1);
        Due.due("sheet(0, 8, 41)", x.sheet(0, 8, 41), Due.BEYOND);
        Due.due("judge(0), not touched", x.judge(0), 1);
        Due.due("sheet(0, 16, 1)", x.sheet(0, 16, 1), 1);
        Due.due("judge(0), all 0 again", x.judge(0), 0);
        Due.due("sheet(0, 0, 7)", x.sheet(0, 0, 7), 0);
        Due.due("judge(0)", x.judge(0), Due.MISSING);
    }

    private static void write() {
        CurtainHouse x = Due.house("curtain likes 3;iron likes 3");
        Due.due("write(0, 0, 0)", x.write(0, 0, 0), Due.MISSING);
        Due.due("write(4, 0, 0)", x.write(4, 0, 0), Due.BEYOND);
        Due.due("write(-1, 0, 0)", x.write(-1, 0, 0), Due.BEYOND);
        x.sheet(0, 8, 2);
        Due.due("write(0, 2, 0)", x.write(0, 2, 0), Due.BEYOND);
        Due.due("write(0, -1, 0)", x.write(0, -1, 0), Due.BEYOND);
        Due.due("write(0, 1, 127)", x.write(0, 1, 127), 1);
        Due.due("write(0, 0, 256 + 9)", x.write(0, 0, 265), 1);
        Due.due("load(0)", x.load(0), 2);
        Due.due("of(0, 2)", x.of(0, 2), 9);
        Due.due("of(1, 2)", x.of(1, 2), 127);
        x.write(0, 1, 128);
        Due.due("load(0), 128 is -128 in 8 bits", x.load(0), 1);
        x.sheet(0, 16, 1);
        x.write(0, 0, 0x7000FFF);
        Due.due("load(0)", x.load(0), 1);
        Due.due("of(0, 2)", x.of(0, 2), 4095);
        x.write(0, 0, 0x8000);
        Due.due("load(0), 32768 is -32768 in 16 bits", x.load(0), 0);
        x.sheet(0, 32, 1);
        x.write(0, 0, 0x10001);
        Due.due("load(0), 65537 in 32 bits", x.load(0), 0);
        x.sheet(0, 8, 0);
        Due.due("write(0, 0, 0), no numbers", x.write(0, 0, 0), Due.BEYOND);
    }

    private static void copyFindings() {
        CurtainHouse x = new CurtainHouse();
        Due.due("copy(4, ..)", x.copy(4, 0, 0, 0, 0), Due.BEYOND);
        Due.due("copy(.., 4, ..)", x.copy(0, 0, 4, 0, 0), Due.BEYOND);
        Due.due("copy(-1, ..)", x.copy(-1, 0, 0, 0, 0), Due.BEYOND);
        Due.due("copy(.., -1, ..)", x.copy(0, 0, -1, 0, 0), Due.BEYOND);
        x.sheet(0, 8, 3);
        x.sheet(1, 16, 3);
        x.sheet(2, 8, 2);
        Due.due("copy from MISSING", x.copy(3, -1, 0, 0, 0), Due.MISSING);
        Due.due("copy to MISSING", x.copy(0, 0, 3, 0, 9), Due.MISSING);
        Due.due("copy to other bits", x.copy(0, 0, 1, 0, 9), Due.KIND);
        Due.due("copy(0, -1, 2, 0, 1)", x.copy(0, -1, 2, 0, 1), Due.BEYOND);
        Due.due("copy(0, 0, 2, -1, 1)", x.copy(0, 0, 2, -1, 1), Due.BEYOND);
        Due.due("copy(0, 0, 2, 0, -1)", x.copy(0, 0, 2, 0, -1), Due.BEYOND);
        Due.due("copy(0, 0, 2, 0, 3)", x.copy(0, 0, 2, 0, 3), Due.BEYOND);
        Due.due("copy(2, 0, 0, 0, 3)", x.copy(2, 0, 0, 0, 3), Due.BEYOND);
        Due.due("copy(0, 2, 2, 0, 2)", x.copy(0, 2, 2, 0, 2), Due.BEYOND);
        Due.due("copy(0, 0, 2, 1, 2)", x.copy(0, 0, 2, 1, 2), Due.BEYOND);
        Due.due("copy(0, 3, 2, 2, 0)", x.copy(0, 3, 2, 2, 0), 0);
        Due.due("copy(0, 4, 2, 2, 0)", x.copy(0, 4, 2, 2, 0), Due.BEYOND);
        Due.due("copy(0, 3, 2, 3, 0)", x.copy(0, 3, 2, 3, 0), Due.BEYOND);
        int most = Integer.MAX_VALUE;
        Due.due("copy of the most", x.copy(0, most, 2, 0, most), Due.BEYOND);
        Due.due("copy of the most", x.copy(0, 1, 2, 0, most), Due.BEYOND);
        Due.due("copy of the least", x.copy(0, 0, 2, 0, Integer.MIN_VALUE), Due.BEYOND);
    }

    private static void likes(String call, CurtainHouse x, int s, int... want) {
        Due.due(call + ": load", x.load(s), want.length);
        for (int c = 0; c < want.length; c++) {
            Due.due(call + ": of(" + c + ", 2)", x.of(c, 2), want[c]);
        }
    }

    private static void copy() {
        CurtainHouse x = Due.house("iron;iron;iron;iron;iron;iron");
        Due.tell(x, 0, 16, 1, 2, 3, 4, 5, 6);
        Due.tell(x, 1, 16, 11, 12, 13);
        Due.due("copy between", x.copy(0, 3, 1, 0, 2), 2);
        likes("the other one", x, 1, 4, 5, 13);
        likes("itself", x, 0, 1, 2, 3, 4, 5, 6);
        Due.due("copy up within", x.copy(0, 0, 0, 2, 4), 4);
        likes("up", x, 0, 1, 2, 1, 2, 3, 4);
        Due.due("copy down within", x.copy(0, 1, 0, 0, 5), 5);
        likes("down", x, 0, 2, 1, 2, 3, 4, 4);
        Due.due("status(-1)", x.status(-1), 0);
    }

    private static void load() {
        CurtainHouse x = Due.house("curtain likes 7;gauze likes 7;drop likes 7");
        Due.due("load(-1)", x.load(-1), Due.BEYOND);
        Due.due("load(4)", x.load(4), Due.BEYOND);
        Due.due("load(0)", x.load(0), Due.MISSING);
        Due.tell(x, 0, 32, 5, 4096, 6);
        likes("ends at 4096", x, 0, 5);
        Due.due("of(1, 2)", x.of(1, 2), 7);
        Due.due("of(2, 2)", x.of(2, 2), 7);
        Due.tell(x, 0, 32, 4095, 0, -1);
        likes("ends at -1", x, 0, 4095, 0);
        Due.tell(x, 0, 32, 1, 2, 3, 4, 5);
        likes("ends behind the last CURTAIN", x, 0, 1, 2, 3);
        Due.tell(x, 0, 32, 9);
        likes("ends with the sheet", x, 0, 9);
        Due.due("of(1, 2)", x.of(1, 2), 2);
    }

    private static void judge() {
        CurtainHouse x = Due.house("curtain high 3;gauze high 0;drop");
        Due.due("judge(-1)", x.judge(-1), Due.BEYOND);
        Due.due("judge(4)", x.judge(4), Due.BEYOND);
        Due.due("judge(0)", x.judge(0), Due.MISSING);
        Due.tell(x, 0, 8, 3, 0, 20);
        Due.due("judge, so", x.judge(0), 0);
        Due.tell(x, 0, 8, 3, 0);
        Due.due("judge, fewer", x.judge(0), 0);
        Due.tell(x, 0, 8, 3, 0, 20, 20);
        Due.due("judge, no such CURTAIN", x.judge(0), 4);
        Due.tell(x, 0, 8, 4, 0, 21);
        Due.due("judge, the first", x.judge(0), 1);
        Due.tell(x, 0, 8, 3, 0, 19);
        Due.due("judge, the third", x.judge(0), 3);
        Due.tell(x, 0, 8, 3, -1, 20);
        Due.due("judge, -1 isn't any", x.judge(0), 2);
    }
}
