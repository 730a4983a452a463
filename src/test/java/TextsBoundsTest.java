/** The boundary cases of TEXTS and of promises 28 to 30, sentence by sentence. */
public final class TextsBoundsTest {
    private static final int MIN = Integer.MIN_VALUE;
    private static final int MAX = Integer.MAX_VALUE;
    private static final String[] KINDS = {"curtain", "velvet", "gauze", "drop", "cloud", "iron", "fringe"};
    private static final String EIGHT = "iron;iron;iron;iron;iron;iron;iron;iron";

    public static void main(String[] args) {
        tapeOf120();
        wordsOfLetters();
        numbersOfDigits();
        tokensAsLongAsCanBe();
        blanksBetween();
        itemsBetweenSigns();
        itemsOfKinds();
        itemParts();
        itemPartsInOrder();
        itemScene();
        itemFireAndOut();
        faultOfANumber();
        faultOfAnotherWord();
        faultOfNoToken();
        faultOfANinth();
        faultOfAnEarlyEnd();
        faultIsTheFirst();
        feedBytes();
        feedBeyond();
        feedFull();
        wipeTells();
        textIsSo();
        textItemByItem();
        textWithAFault();
        Due.end();
    }

    /** What text() answers in a new house. */
    private static int read(String text) {
        return Due.read(new CurtainHouse(), text);
    }

    private static void fault(String text, int place) {
        Due.due("text() for '" + text + "'", read(text), -1 - place);
    }

    private static void items(String text, int many) {
        Due.due("text() for '" + text + "'", read(text), many);
    }

    private static String blanks(int n) {
        return " ".repeat(n);
    }

    private static void tapeOf120() {
        Doc.says(0, "A TEXT is read from THE TAPE (bytes, at most 120).");
        items(blanks(116) + "fire", 1);
        items("fire" + blanks(116), 1);
        items("fire" + ";out".repeat(29), 30);
        fault(blanks(119) + "x", 119);
        fault(blanks(120), 120);
        CurtainHouse x = new CurtainHouse();
        Due.feed(x, "fire" + ";out".repeat(29) + "x");
        Due.due("a 121st byte doesn't come", x.text(), 30);
    }

    private static void wordsOfLetters() {
        Doc.says(0, "WORDS (letters a to z)");
        // a and z are letters: a WORD with them can't stand, as a whole; their neighbours begin no TOKEN.
        fault("firea", 0);
        fault("firez", 0);
        fault("afire", 0);
        fault("zfire", 0);
        items("gauze", 1);
        String[] words = {"curtain", "velvet", "gauze", "drop", "cloud", "iron", "fringe", "scene", "fire", "out"};
        for (String word : words) {
            faultByEachLetter("", word, " 0 0");
        }
        for (String word : new String[] {"mood", "likes", "high", "tied"}) {
            faultByEachLetter("drop ", word, " 0");
        }
        for (int other : new int[] {'`', '{', '@', '[', 'A', 'Z', '_', 'a' + 128, 'z' + 128}) {
            fault("fire" + (char) other, 4);
            fault((char) other + "fire", 0);
        }
        fault("Fire", 0);
        fault("fIre", 0);
        fault("fiRe", 0);
    }

    /** A WORD with another letter in any of its places can't stand where it could. */
    private static void faultByEachLetter(String ahead, String word, String behind) {
        for (int k = 0; k < word.length(); k++) {
            String other = word.substring(0, k) + "q" + word.substring(k + 1);
            fault(ahead + other + behind, ahead.length());
        }
    }

    private static void numbersOfDigits() {
        Doc.says(0, "NUMBERS (digits, 9999 at most)");
        items("drop mood 0", 1);
        items("drop mood 9", 1);
        items("drop likes 4095", 1);
        fault("drop likes 9999", 11);
        fault("drop likes 10000", 11);
        fault("drop likes 10001", 11);
        for (String number : new String[] {"65536", "65541", "2147483648", "4294967296", "4294967301",
            "18446744073709551616", "18446744073709551621", "1" + "0".repeat(90)}) {
            fault("drop likes " + number, 11);
            fault("scene 0 " + number, 8);
            fault("scene " + number + " 0", 6);
        }
        // Zeros ahead make it no greater.
        items("drop likes 0000000004095", 1);
        items("scene " + "0".repeat(50) + "5 " + "0".repeat(50) + "11", 1);
        fault("drop mood /", 10);
        fault("drop mood :", 10);
        fault("drop mood " + (char) ('0' + 128), 10);
    }

    private static void tokensAsLongAsCanBe() {
        Doc.says(0, "TOKENS, each as long as can be: ");
        fault("dropmood 1", 0);
        fault("fireout", 0);
        fault("drop moodlikes 1", 5);
        fault("scene 01", 8);
        fault("scene 12", 6);
        fault("scene 1 23", 8);
        // A WORD ends at a digit or a sign, a NUMBER at a letter or a sign.
        items("drop mood1likes2high3tied;scene0 1;fire", 3);
        items("fire;out", 2);
    }

    private static void blanksBetween() {
        Doc.says(0, "SIGN ; ; blanks may stand between.");
        items("  fire  ", 1);
        items("  fire  ;  out  ", 2);
        items("drop   mood   1   tied", 1);
        items("scene  0  1", 1);
        fault("fi re", 0);
        fault("drop mood 1 0", 12);
        fault("drop li kes 1", 5);
        for (int other : new int[] {0, 9, 10, 13, 31, 33, 127, 128, 160, 255}) {
            fault("fire " + (char) other, 5);
            fault("fire" + (char) other + ";out", 4);
        }
        for (int other : new int[] {':', '<', ',', ';' + 128}) {
            fault("fire" + (char) other + "out", 4);
        }
    }

    private static void itemsBetweenSigns() {
        Doc.says(0, "TEXT: ITEM { ; ITEM }.");
        items("fire", 1);
        items("fire;fire", 2);
        fault("", 0);
        fault(";", 0);
        fault(";fire", 0);
        fault("fire;", 5);
        fault("fire;;fire", 5);
        fault("fire fire", 5);
        fault("fire;fire;", 10);
        fault("fire; ;fire", 6);
    }

    private static void itemsOfKinds() {
        Doc.says(0, "ITEM: curtain, velvet, gauze, drop, cloud, iron or fringe, ");
        for (int kind = 0; kind < 7; kind++) {
            CurtainHouse x = Due.house(KINDS[kind]);
            int[] row = {kind, 60, 0, 20, 0, 0};
            for (int what = 0; what < 6; what++) {
                Due.due(KINDS[kind] + ", of(0, " + what + ")", x.of(0, what), row[what]);
            }
            fault(KINDS[kind] + "s", 0);
            fault(KINDS[kind].substring(1), 0);
            fault(KINDS[kind].substring(0, KINDS[kind].length() - 1), 0);
        }
    }

    private static void part(String word, int what, int most) {
        for (int v : new int[] {0, 1, most - 1, most}) {
            CurtainHouse x = Due.house("iron;drop " + word + " " + v);
            Due.due(word + " " + v, x.of(1, what), v);
        }
        int place = 6 + word.length();
        fault("drop " + word + " " + (most + 1), place);
        fault("drop " + word + " -1", place);
        fault("drop " + word + " tied", place);
        fault("drop " + word, place - 1);
        fault("drop " + word + ";iron", place - 1);
    }

    private static void itemParts() {
        Doc.says(0, "perhaps mood and a NUMBER (0 to 99), perhaps likes and a NUMBER (0 to 4095), perhaps high and a NUMBER"
                + " (0 to 20), perhaps tied: a new one; ");
        part("mood", 1, 99);
        part("likes", 2, 4095);
        part("high", 3, 20);
        Due.due("tied", Due.house("drop tied").of(0, 4), 1);
        Due.due("not tied", Due.house("drop").of(0, 4), 0);
        fault("drop tied 1", 10);
        fault("drop 5", 5);
    }

    private static void itemPartsInOrder() {
        Doc.says(0, "perhaps mood");
        String[] parts = {" mood 7", " likes 6", " high 5", " tied"};
        int[] told = {7, 6, 5, 1};
        int[] first = {60, 0, 20, 0};
        for (int set = 0; set < 16; set++) {
            StringBuilder text = new StringBuilder("drop");
            for (int k = 0; k < 4; k++) {
                text.append((set >> k & 1) == 1 ? parts[k] : "");
            }
            CurtainHouse x = Due.house(text.toString());
            for (int k = 0; k < 4; k++) {
                Due.due(text + ", of(0, " + (k + 1) + ")", x.of(0, k + 1), (set >> k & 1) == 1 ? told[k] : first[k]);
            }
        }
        // None twice, none ahead of one that stands further ahead.
        for (int k = 0; k < 4; k++) {
            for (int earlier = 0; earlier <= k; earlier++) {
                fault("drop" + parts[k] + parts[earlier], 5 + parts[k].length());
            }
        }
    }

    private static void itemScene() {
        Doc.says(0, "scene, two NUMBERS (a place of THE LIST, 0 to 5, a SCENE); ");
        for (int i = 0; i < 6; i++) {
            for (int scene = 0; scene < 12; scene += 11) {
                Due.due("scene " + i + " " + scene, Due.house("scene " + i + " " + scene).listed(i), scene);
            }
        }
        fault("scene 6 0", 6);
        fault("scene 0 12", 8);
        fault("scene 6 12", 6);
        fault("scene -1 0", 6);
        fault("scene 0 -1", 8);
        fault("scene", 5);
        fault("scene 0", 7);
        fault("scene;fire", 5);
        fault("scene 0;fire", 7);
        fault("scene 0 1 2", 10);
        fault("scene 0 fire", 8);
        fault("scene tied", 6);
    }

    private static void itemFireAndOut() {
        Doc.says(0, "fire or out (FIRE is, or isn't).");
        CurtainHouse x = new CurtainHouse();
        String[] texts = {"out", "fire", "fire", "out", "fire;out", "out;fire"};
        int[] then = {0, 1, 1, 0, 0, 1};
        for (int k = 0; k < texts.length; k++) {
            Due.read(x, texts[k]);
            Due.due("FIRE behind " + texts[k], x.now(7), then[k]);
        }
        fault("fire 1", 5);
        fault("out 0", 4);
    }

    private static void faultOfANumber() {
        Doc.says(0, "a NUMBER that isn't as told, ");
        fault("drop mood 100", 10);
        fault("drop mood  0100", 11);
        fault("drop likes 4096", 11);
        fault("drop high 21", 10);
        fault("scene 6 1", 6);
        fault("scene 5 12", 8);
        fault("12", 0);
        fault("fire;12", 5);
        fault("fire 0", 5);
    }

    private static void faultOfAnotherWord() {
        Doc.says(0, "another WORD, ");
        fault("actor", 0);
        fault("  actor", 2);
        fault("mood 1", 0);
        fault("likes 1", 0);
        fault("high 1", 0);
        fault("tied", 0);
        fault("fire;tied", 5);
        fault("drop scene 0 0", 5);
        fault("drop fire", 5);
        fault("drop mood 1 gauze", 12);
        fault("drop moody 1", 5);
    }

    private static void faultOfNoToken() {
        Doc.says(0, "a byte that begins no TOKEN, ");
        fault("#", 0);
        fault(" #", 1);
        fault("fire#", 4);
        fault("fire #;out", 5);
        fault("drop mood #1", 10);
        fault("drop mood 1#", 11);
        fault("scene 0 1;" + (char) 0, 10);
        fault((char) 255 + "", 0);
    }

    private static void faultOfANinth() {
        Doc.says(0, "the WORD of a 9th CURTAIN: its own)");
        items(EIGHT, 8);
        fault(EIGHT + ";iron", 40);
        fault(EIGHT + ";  iron", 42);
        fault(EIGHT + ";iron mood 100", 40);
        fault(EIGHT + ";iron x", 40);
        items(EIGHT + ";fire;scene 0 1", 10);
        // Those that hung ahead of the TEXT count.
        CurtainHouse x = Due.house("drop;drop;drop;drop;drop;drop;drop");
        Due.due("a 9th", Due.read(x, "fire;drop;velvet"), -1 - 10);
        Due.due("an 8th", Due.read(x, "fire;drop"), 2);
        for (String kind : KINDS) {
            Due.due("a 9th, " + kind, Due.read(x, "out;" + kind), -1 - 4);
        }
        Due.due("no CURTAIN", Due.read(x, "out"), 1);
    }

    private static void faultOfAnEarlyEnd() {
        Doc.says(0, "or how many bytes there are if it ends too early.");
        fault("", 0);
        fault(" ", 1);
        fault("fire;", 5);
        fault("fire;   ", 8);
        fault("drop mood", 9);
        fault("drop mood  ", 11);
        fault("drop likes", 10);
        fault("drop high", 9);
        fault("scene ", 6);
        fault("scene 1 ", 8);
        fault("fire" + ";out".repeat(28) + ";" + blanks(3), 120);
    }

    private static void faultIsTheFirst() {
        Doc.says(0, "FAULT: the place (from 0) of the first byte of the first TOKEN that can't stand there (");
        fault("actor;#;12", 0);
        fault("fire;actor;#", 5);
        fault("fire;scene 9 9;actor", 11);
        fault("drop mood 100 likes 5000", 10);
        fault("drop mood 1 likes 5000 high 99", 18);
    }

    private static void feedBytes() {
        Doc.says(28, "THE TAPE gets the n lowest bytes of a number behind it, the highest of these first (n 1 to 4): how many"
                + " it has.");
        CurtainHouse x = new CurtainHouse();
        Due.due("feed(.., 4)", x.feed('f' << 24 | 'i' << 16 | 'r' << 8 | 'e', 4), 4);
        Due.due("feed(.., 3), one byte more isn't fed", x.feed('x' << 24 | ';' << 16 | 'o' << 8 | 'u', 3), 7);
        Due.due("feed(.., 1), three more aren't", x.feed(0xFFFFFF00 | 't', 1), 8);
        Due.due("feed(.., 2)", x.feed(0x12340000 | ' ' << 8 | ';', 2), 10);
        Due.due("feed(.., 4)", x.feed('f' << 24 | 'i' << 16 | 'r' << 8 | 'e', 4), 14);
        Due.due("count(5)", x.count(5), 14);
        Due.due("text()", x.text(), 3);
        Due.due("now(7)", x.now(7), 1);
        for (int number : new int[] {0, -1, MIN, MAX}) {
            Due.due("feed(" + number + ", 4)", x.feed(number, 4), 4);
            Due.due("wipe()", x.wipe(), 4);
        }
    }

    private static void feedBeyond() {
        Doc.says(28, "BEYOND: n.");
        Twins t = new Twins("drop");
        Twins full = new Twins("drop");
        full.both(CurtainHouse::wipe);
        for (int k = 0; k < 30; k++) {
            full.both(x -> x.feed(0x20202020, 4));
        }
        for (int n : new int[] {0, 5, -1, MIN, MAX}) {
            t.beyond("feed(0, " + n + ")", x -> x.feed(0, n));
            full.beyond("feed(0, " + n + "), ahead of FULL", x -> x.feed(0, n));
        }
        t.stayAlike();
        full.stayAlike();
    }

    private static void feedFull() {
        Doc.says(28, "FULL.");
        for (int n = 1; n <= 4; n++) {
            int many = n;
            for (int left = 0; left <= 4; left++) {
                Twins t = new Twins("drop");
                t.both(CurtainHouse::wipe);
                for (int k = 0; k < 29; k++) {
                    t.both(x -> x.feed(0x20202020, 4));
                }
                for (int k = left; k < 4; k++) {
                    t.both(x -> x.feed(' ', 1));
                }
                if (n > left) {
                    t.refuses("feed(.., " + n + "), room for " + left, Due.FULL, x -> x.feed(0x61616161, many));
                } else {
                    t.both(x -> x.feed(0x20202020, many));
                }
                t.both(x -> x.count(5));
                t.stayAlike();
            }
        }
        CurtainHouse x = new CurtainHouse();
        for (int k = 1; k <= 120; k++) {
            Due.due("feed, byte " + k, x.feed(' ', 1), k);
        }
        Due.due("feed, byte 121", x.feed(' ', 1), Due.FULL);
        Due.due("count(5)", x.count(5), 120);
    }

    private static void wipeTells() {
        Doc.says(29, "THE TAPE is empty: how many it had.");
        CurtainHouse x = new CurtainHouse();
        Due.due("wipe(), empty", x.wipe(), 0);
        Due.feed(x, blanks(120));
        Due.due("wipe(), full", x.wipe(), 120);
        Due.due("wipe() again", x.wipe(), 0);
        Due.due("count(5)", x.count(5), 0);
        Due.due("text(), nothing of it stayed", Due.read(x, "fire"), 1);
        Due.feed(x, "x");
        Due.due("wipe()", x.wipe(), 1);
        Due.due("text()", x.text(), -1);
    }

    private static void textIsSo() {
        Doc.says(30, "THE TAPE is a TEXT, and empty then; all that it tells is so, item by item: how many ITEMS.");
        CurtainHouse x = Due.house("velvet mood 3");
        Due.due("text()", Due.read(x, "fire;scene 5 11;cloud mood 99 likes 4095 high 0 tied;scene 0 0"), 4);
        Due.due("THE TAPE is empty then", x.count(5), 0);
        Due.due("FIRE", x.now(7), 1);
        Due.due("listed(5)", x.listed(5), 11);
        int[] row = {4, 99, 4095, 0, 1, 0};
        for (int what = 0; what < 6; what++) {
            Due.due("of(1, " + what + ")", x.of(1, what), row[what]);
        }
        Due.due("of(0, 1), the one ahead stays", x.of(0, 1), 3);
        Due.due("one that hangs down by a TEXT isn't one that came down", x.now(1) + x.now(2), 0);
        Due.due("BEAT", x.now(0), 0);
    }

    private static void textItemByItem() {
        Doc.says(30, "item by item");
        CurtainHouse x = Due.house("scene 2 3;scene 2 4;scene 2 5;fire;out;iron;drop;gauze");
        Due.due("the last SCENE told", x.listed(2), 5);
        Due.due("the last of fire and out", x.now(7), 0);
        Due.due("CURTAINS by their order", x.of(0, 0) * 100 + x.of(1, 0) * 10 + x.of(2, 0), 532);
    }

    private static void textWithAFault() {
        Doc.says(30, "With a FAULT: -1 less the FAULT (nothing changes but that THE TAPE is empty; no finding).");
        Twins t = new Twins("velvet mood 3;drop");
        t.both(CurtainHouse::wipe);
        String text = "fire;scene 1 9;iron;gauze mood 7;actor";
        for (int k = 0; k < text.length(); k++) {
            int sign = text.charAt(k);
            t.both(x -> x.feed(sign, 1));
        }
        // The other one is wiped where the one that is asked reads a FAULT.
        t.apart("text()", -1 - 33, CurtainHouse::text, CurtainHouse::wipe);
        t.both(x -> x.count(5));
        t.stayAlike();
        CurtainHouse x = new CurtainHouse();
        Due.due("text(), empty", x.text(), -1);
        Due.due("text(), the greatest FAULT", Due.read(x, blanks(120)), -121);
        Due.due("count(5)", x.count(5), 0);
        Due.due("no finding", x.status(-1), 0);
        Due.due("text(), its first ITEM stands", Due.read(x, "drop mood 1 likes 5 high 2 tied;actor"), -1 - 32);
        Due.due("text()", Due.read(x, "gauze"), 1);
        int[] first = {2, 60, 0, 20, 0, 0};
        for (int what = 0; what < 6; what++) {
            Due.due("nothing of it stayed, of(0, " + what + ")", x.of(0, what), first[what]);
        }
    }
}
