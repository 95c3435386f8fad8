import java.lang.reflect.Method;
import java.lang.reflect.Modifier;
import java.util.Arrays;

/** Runs of as many calls as an object is for, answered by the program and by SlowPainter alike. */
final class DifferentialTests {
    private static final Check CHECK = new Check("DifferentialTests");
    private static final String[] NAMES = {"layer", "drop", "move", "dress", "told", "taken", "dot", "brush", "touch",
        "feed", "stroke", "box", "flood", "undo", "mask", "wand", "grow", "masked", "dither", "areas", "sprayed",
        "chance", "tells", "film", "image", "back", "count", "sheet", "put", "copy"};
    /** How often each call comes, in the order of the names. */
    private static final int[] WEIGHTS = {3, 1, 1, 6, 4, 4, 14, 10, 4,
        0, 12, 8, 6, 12, 5, 5, 4, 3, 4, 3, 2,
        2, 8, 4, 2, 2, 6, 3, 5, 4};
    private static final String[] PIECES = {"move ", "line ", "across ", "down ", "close ", "close\n", " 3", "7 ",
        "11 ", "12 ", "15", "16 ", "007", "x", "A", "!", " ", "99 ", "0 0 "};

    private static final Method[] FAST = methodsOf(RasterPainter.class);
    private static final Method[] SLOW = methodsOf(SlowPainter.class);

    /** An object is for so many calls. */
    private static final int CALLS = 512;
    /** What is looked at in the end: two rows each of 12, and 8 counts. */
    private static final int LAST_LOOKS = 32;
    /** The longest text of a stroke comes in fewer calls, the stroke with them. */
    private static final int STROKE_CALLS = 20;
    /** Of so many numbers two or three are outside of what a call allows, and five at its ends. */
    private static final int TAME = 60, WILD = 12;

    private long state;
    private final int rarity;

    private DifferentialTests(long seed, int rarity) {
        state = seed;
        this.rarity = rarity;
    }

    public static void main(String[] args) {
        int runs = args.length > 0 ? Integer.parseInt(args[0]) : 250;
        for (int run = 0; run < runs; run++) {
            new DifferentialTests(run * 7919L + 17, run % 5 == 4 ? WILD : TAME).run(run);
        }
        CHECK.close();
    }

    private int draw(int below) {
        state = state * 6364136223846793005L + 1442695040888963407L;
        return (int) ((state >>> 33) % below);
    }

    /** A number from least to most, now and then one outside. */
    private int near(int least, int most) {
        int way = draw(rarity);
        if (way == 0) {
            return least - 1;
        }
        if (way == 1) {
            return most + 1;
        }
        if (way == 2) {
            int[] far = {Integer.MIN_VALUE, Integer.MAX_VALUE, -100, 1000, 65536, draw(1 << 30) * 4 + draw(4)};
            return far[draw(far.length)];
        }
        if (way < 8) {
            return draw(2) == 0 ? least : most;
        }
        return least + draw(most - least + 1);
    }

    private int layerNumber() {
        return draw(40) == 0 ? near(-1, 4) : draw(2);
    }

    private int byteLike() {
        return draw(3) == 0 ? near(0, 255) : 32 * draw(8);
    }

    private int pick() {
        int all = Arrays.stream(WEIGHTS).sum();
        int at = draw(all);
        for (int i = 0; i < WEIGHTS.length; i++) {
            at -= WEIGHTS[i];
            if (at < 0) {
                return i;
            }
        }
        return 0;
    }

    private int[] arguments(int call) {
        switch (NAMES[call]) {
            case "layer":
                return new int[] {near(0, 5), near(0, 99), near(0, 255)};
            case "drop":
                return new int[] {near(0, 3)};
            case "move":
                return new int[] {near(0, 3), near(0, 3)};
            case "dress":
                return new int[] {near(-1, 2), near(0, 5), near(0, 99), near(0, 255)};
            case "told":
                return new int[] {layerNumber(), near(0, 3)};
            case "taken":
                return new int[] {layerNumber(), near(0, 5), near(0, 255)};
            case "dot":
                return new int[] {near(-1, 2), near(0, 15), near(0, 11), draw(2) == 0 ? 0 : near(0, 1)};
            case "brush":
                return new int[] {near(0, 4), near(0, 4), draw(4) == 0 ? -1 : near(-1, 255), near(0, 9)};
            case "touch":
                return new int[] {draw(3) == 0 ? near(-9, 9) : near(-4, 4), near(-4, 4)};
            case "stroke":
                return new int[] {layerNumber()};
            case "box":
                return new int[] {layerNumber(), near(0, 15), near(0, 11), near(0, 15), near(0, 11)};
            case "flood":
                return new int[] {layerNumber(), near(0, 15), near(0, 11), byteLike()};
            case "undo":
                return new int[] {near(0, 1)};
            case "mask":
                return new int[] {near(0, 15), near(0, 11), near(0, 15), near(0, 11), near(0, 3)};
            case "wand":
                return new int[] {layerNumber(), near(0, 15), near(0, 11), byteLike(), near(0, 3)};
            case "grow":
                return new int[] {near(0, 2)};
            case "masked":
                return new int[] {near(0, 11)};
            case "dither":
                return new int[] {near(0, 1), near(0, 11)};
            case "areas":
                return new int[] {near(0, 2)};
            case "sprayed":
                return new int[] {layerNumber(), draw(1 << 30) * 4 + draw(4), near(0, 30)};
            case "chance":
                return new int[] {layerNumber(), draw(1 << 30) * 4 + draw(4), near(1, 10), near(0, 15), near(0, 11),
                    near(0, 1)};
            case "tells":
                return new int[] {near(0, 3), draw(2) == 0 ? 5 : near(0, 11), near(0, 3)};
            case "film":
                return new int[] {near(0, 3), draw(2) == 0 ? 5 : near(0, 11)};
            case "image":
            case "back":
                return new int[0];
            case "count":
                return new int[] {near(0, 7)};
            case "sheet":
                return new int[] {near(0, 3), near(-1, 1), draw(3) == 0 ? near(0, 40) : near(0, 16)};
            case "put":
                return new int[] {near(0, 3), near(0, 15), draw(3) == 0 ? near(-40000, 40000) : byteLike()};
            default:
                return new int[] {near(0, 3), near(0, 8), near(0, 3), near(0, 8), near(0, 8)};
        }
    }

    /** The methods of a painter, in the order of the names. */
    private static Method[] methodsOf(Class<?> painter) {
        Method[] methods = new Method[NAMES.length];
        for (Method m : painter.getDeclaredMethods()) {
            int call = Arrays.asList(NAMES).indexOf(m.getName());
            if (call >= 0 && !Modifier.isPrivate(m.getModifiers())) {
                methods[call] = m;
            }
        }
        return methods;
    }

    private static int ask(Object painter, Method method, int[] a) {
        Object[] arguments = new Object[a.length];
        for (int i = 0; i < a.length; i++) {
            arguments[i] = a[i];
        }
        try {
            return (Integer) method.invoke(painter, arguments);
        } catch (ReflectiveOperationException e) {
            throw new IllegalStateException(method.getName() + Arrays.toString(a), e);
        }
    }

    private String strokeText() {
        StringBuilder text = new StringBuilder("move " + draw(16) + " " + draw(12));
        int steps = draw(5);
        for (int i = 0; i < steps; i++) {
            String[] step = {" line " + draw(16) + " " + draw(12), " across " + draw(16), "down" + draw(12), " close"};
            text.append(step[draw(4)]);
        }
        if (draw(5) == 0) {
            text.insert(draw(text.length() + 1), PIECES[draw(PIECES.length)]);
        }
        if (draw(8) == 0) {
            text.setLength(draw(text.length() + 1));
        }
        if (draw(12) == 0) {
            text.setLength(0);
            for (int i = draw(12); i > 0; i--) {
                text.append(PIECES[draw(PIECES.length)]);
            }
        }
        return text.toString();
    }

    private void run(int run) {
        RasterPainter p = new RasterPainter();
        SlowPainter q = new SlowPainter();
        int layers = 1 + draw(3);
        int calls = 0;
        for (; calls < layers; calls++) {
            int[] a = {draw(6), draw(100), 128 + draw(128)};
            same(run, calls, p, q, 0, a);
        }
        while (calls < CALLS - LAST_LOOKS) {
            int call = pick();
            boolean hasRoom = calls <= CALLS - LAST_LOOKS - STROKE_CALLS;
            if (NAMES[call].equals("stroke") && hasRoom && draw(8) != 0) {
                String text = strokeText();
                for (int i = 0; i < text.length(); i += 5) {
                    int[] a = new int[6];
                    a[0] = Math.min(5, text.length() - i);
                    for (int k = 0; k < a[0]; k++) {
                        a[k + 1] = text.charAt(i + k);
                    }
                    same(run, calls++, p, q, 9, a);
                }
            }
            same(run, calls++, p, q, call, arguments(call));
        }
        for (int y = 0; y < 12; y++) {
            same(run, calls++, p, q, 18, new int[] {0, y});
            same(run, calls++, p, q, 17, new int[] {y});
        }
        for (int what = 0; what < 8; what++) {
            same(run, calls++, p, q, 26, new int[] {what});
        }
        CHECK.due("run " + run + ": calls", calls, CALLS);
    }

    private static void same(int run, int n, RasterPainter p, SlowPainter q, int call, int[] a) {
        int got = ask(p, FAST[call], a);
        int want = ask(q, SLOW[call], a);
        CHECK.due("run " + run + ", call " + n + ": " + NAMES[call] + Arrays.toString(a), got, want);
    }
}
