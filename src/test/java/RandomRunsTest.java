import java.lang.reflect.Method;
import java.util.Arrays;
import java.util.Comparator;
import java.util.Random;

/** Runs of random calls, the same ones every time, whose answers are those of ReferenceHouse. */
public final class RandomRunsTest {
    private static final int RUNS = 400;
    private static final int CALLS = 512;
    private static final String[] PIECES = {"curtain", "velvet", "gauze", "drop", "cloud", "iron", "fringe",
        "scene", "fire", "out", "mood", "likes", "high", "tied", ";", ";", "0", "7", "5", "11", "20", "99", "4095",
        "100", "12", " ", "x", "#"};

    private final Random random;
    private final CurtainHouse house = new CurtainHouse();
    private final ReferenceHouse reference = new ReferenceHouse();
    private final StringBuilder told = new StringBuilder();

    private RandomRunsTest(long seed) {
        random = new Random(seed);
    }

    public static void main(String[] args) throws ReflectiveOperationException {
        int runs = args.length > 0 ? Integer.parseInt(args[0]) : RUNS;
        long first = args.length > 1 ? Long.parseLong(args[1]) : 1;
        for (long seed = first; seed < first + runs; seed++) {
            new RandomRunsTest(seed).run(seed);
        }
        Due.end();
    }

    private void run(long seed) throws ReflectiveOperationException {
        Method[] methods = CurtainHouse.class.getDeclaredMethods();
        methods = Arrays.stream(methods)
                .filter(m -> java.lang.reflect.Modifier.isPublic(m.getModifiers()))
                .sorted(Comparator.comparing(Method::getName)).toArray(Method[]::new);
        int calls = 0;
        while (calls < CALLS) {
            if (random.nextInt(20) == 0) {
                calls += feedText(seed);
            } else {
                Method m = methods[random.nextInt(methods.length)];
                if (m.getName().equals("curtain") || m.getName().equals("fire")) {
                    // Fewer of these, or all houses are full and half of the time on fire.
                    m = random.nextInt(3) > 0 ? methods[random.nextInt(methods.length)] : m;
                }
                call(seed, m.getName(), arguments(m));
                calls++;
            }
        }
    }

    private void call(long seed, String name, Object[] args) throws ReflectiveOperationException {
        Class<?>[] types = new Class<?>[args.length];
        Arrays.fill(types, int.class);
        long got = ((Number) CurtainHouse.class.getMethod(name, types).invoke(house, args)).longValue();
        long want = ((Number) ReferenceHouse.class.getMethod(name, types).invoke(reference, args)).longValue();
        Due.due("run " + seed + ": " + name + Arrays.toString(args), got, want);
    }

    private Object[] arguments(Method m) {
        Object[] args = new Object[m.getParameterCount()];
        for (int i = 0; i < args.length; i++) {
            args[i] = argument(m.getName(), i);
        }
        if (m.getName().equals("change") && random.nextInt(4) > 0) {
            int[] most = {6, 99, 4095, 20, 1, 9999};
            int what = random.nextInt(6);
            args[1] = what;
            args[2] = random.nextInt(most[what] + 1);
        }
        return args;
    }

    private int argument(String name, int i) {
        if (random.nextInt(150) == 0) {
            int[] extremes = {Integer.MIN_VALUE, Integer.MAX_VALUE, -1, 0, 41, 61, 101, 4096, -1000001};
            return extremes[random.nextInt(extremes.length)];
        }
        switch (name) {
            case "seed": return random.nextInt();
            case "feed": return i == 0 ? random.nextInt() : from(1, 4);
            case "fire": return from(0, 1);
            case "scene": return i == 0 ? from(0, 5) : from(0, 11);
            case "curtain": return i == 0 ? from(0, 6) : random.nextInt(4096);
            case "pull": return i == 0 ? from(0, 7) : from(1, 40);
            case "go": return from(1, random.nextInt(8) == 0 ? 60 : 6);
            case "evening": return from(1, random.nextInt(8) == 0 ? 20 : 4);
            case "now": case "count": return from(0, 7);
            case "of": return i == 0 ? from(0, 7) : from(0, 10);
            case "ahead": return i == 0 ? from(0, 7) : i == 1 ? oneOf(1, 3, 5, 8, 2) : from(0, 100);
            case "cut": return from(0, 100);
            case "weary": return i == 0 ? from(0, 7) : from(0, 99);
            case "saved": return oneOf(0, 1, 99, 100, 101, 200, 350, 800, 900, 901, house.now(2) + 1);
            case "sceneFor": return i == 0 ? from(0, 5) : from(0, 60);
            case "kindFor": case "moodFor": case "handsFor": return i == 0 ? from(0, 7) : from(0, 60);
            case "tie": return from(0, 20);
            case "odds": return i == 0 ? from(0, 7) : i == 1 ? from(0, 17) : from(0, 1);
            case "hold": return i == 0 ? from(0, 9) : from(-1, 7);
            case "as": return i == 0 ? from(0, 9) : from(0, 6);
            case "sheet": return i == 0 ? from(0, 3) : i == 1 ? oneOf(8, 8, 16, 32, 0) : oneOf(0, 1, 2, 3, 9, 40, 41, -1);
            case "write": return i == 0 ? from(0, 3) : i == 1 ? from(0, 9) : oneOf(-1, 20, 0, random.nextInt(21), random.nextInt(5000), random.nextInt());
            case "copy": return i == 0 || i == 2 ? from(0, 3) : from(0, 4);
            case "status": return from(-1, 6);
            case "fits": case "kinds": return i == 0 ? from(0, 3) : from(0, 7);
            default: return from(0, 7);
        }
    }

    /** From one to another, now and then just outside. */
    private int from(int least, int most) {
        if (random.nextInt(40) == 0) {
            return random.nextBoolean() ? least - 1 : most + 1;
        }
        return least + random.nextInt(most - least + 1);
    }

    private int oneOf(int... numbers) {
        return numbers[random.nextInt(numbers.length)];
    }

    private int feedText(long seed) throws ReflectiveOperationException {
        told.setLength(0);
        int items = 1 + random.nextInt(4);
        for (int k = 0; k < items; k++) {
            told.append(k == 0 ? "" : ";");
            tellItem();
        }
        if (random.nextInt(3) == 0) {
            String piece = PIECES[random.nextInt(PIECES.length)];
            int place = random.nextInt(told.length() + 1);
            if (random.nextBoolean()) {
                told.insert(place, piece);
            } else {
                told.delete(place, place + 1 + random.nextInt(4));
            }
        }
        int calls = 1;
        if (random.nextInt(4) > 0) {
            call(seed, "wipe", new Object[0]);
            calls++;
        }
        for (int at = 0; at < told.length(); at += 4) {
            int n = Math.min(4, told.length() - at);
            int bytes = random.nextInt();
            for (int i = 0; i < n; i++) {
                bytes = bytes << 8 | told.charAt(at + i);
            }
            call(seed, "feed", new Object[] {bytes, n});
            calls++;
        }
        call(seed, "text", new Object[0]);
        return calls;
    }

    private void tellItem() {
        int which = random.nextInt(12);
        if (which < 7) {
            told.append(PIECES[which]);
            tellPart("mood", 100);
            tellPart("likes", 4096);
            tellPart("high", 21);
            tellPart("tied", 0);
        } else if (which < 10) {
            told.append("scene ").append(random.nextInt(6)).append(' ').append(random.nextInt(12));
        } else {
            told.append(which == 10 ? "fire" : "out");
        }
    }

    private void tellPart(String word, int below) {
        if (random.nextBoolean()) {
            return;
        }
        told.append(' ').append(word);
        if (below > 0) {
            told.append(random.nextBoolean() ? " " : "").append(random.nextInt(below));
        }
    }
}
