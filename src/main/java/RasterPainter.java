import java.util.Arrays;

/** A painter of small pictures in layers; README.md says how to use it. */
public final class RasterPainter {
    public static final int NONE = -1, BAD = -2, STATE = -3, FULL = -4;

    private static final int MISSING = -11, OUTSIDE = -12, UNLIKE = -13, BELOW_ZERO = -14;
    private static final int WIDTH = 16, HEIGHT = 12, DOTS = 192, WHOLE = 255;
    private static final int LAYERS_MOST = 4, FIGURE_MOST = 99;
    private static final int TIMES = 1, SCREEN = 2, BURN = 3, GLOW = 4, APART = 5, MODES = 6;
    /** For each mode the one that it stands under. */
    private static final int[] MODE_ABOVE = {-1, 0, 0, 1, 2, 0};
    private static final int MODE_TRIED_INK = 200;
    private static final int ROUND = 0, SOFT = 1, SQUARE = 2, AIR = 3, CROSS = 4, KINDS = 5;
    private static final int RADIUS_MOST = 4, FLOW_MOST = 9, TOUCH_FAR = 9;
    private static final int TAPE_MOST = 60, FEED_MOST = 5, FAULTS = -100;
    private static final int ACTS_MOST = 10;
    private static final int SPRAY_MOST = 30, SEEDS_MOST = 10, CHANCE_STAMPS = 4;
    private static final int SHEETS = 4, SHEET_MOST = 40, SHORTS = 0, INTS = 1;
    private static final int DARK_BELOW = 128;
    private static final int[] THRESHOLDS = {0, 8, 2, 10, 12, 4, 14, 6, 3, 11, 1, 9, 15, 7, 13, 5};

    private final Picture picture;
    private final Picture kept;
    private boolean hasImage;
    private final Tape tape;
    private final Sheet[] sheets;
    private final Choice choice;
    /** What a layer would be, while something is done in thought. */
    private final Layer thought;
    private final int[] lefts;

    public RasterPainter() {
        picture = new Picture();
        kept = new Picture();
        hasImage = false;
        tape = new Tape();
        sheets = new Sheet[SHEETS];
        for (int i = 0; i < SHEETS; i++) {
            sheets[i] = new Sheet();
        }
        choice = new Choice();
        thought = new Layer();
        lefts = new int[DOTS];
    }

    // ---- layers

    public int layer(int mode, int figure, int opacity) {
        if (!isDress(mode, figure, opacity)) {
            return BAD;
        }
        if (picture.layerCount >= LAYERS_MOST) {
            return FULL;
        }
        return picture.addLayer(mode, figure, opacity);
    }

    public int drop(int layer) {
        if (!picture.hasLayer(layer)) {
            return BAD;
        }
        picture.removeLayer(layer);
        return picture.layerCount;
    }

    public int move(int layer, int to) {
        if (!picture.hasLayer(layer) || !picture.hasLayer(to)) {
            return BAD;
        }
        picture.shiftLayer(layer, to);
        return to;
    }

    public int dress(int layer, int mode, int figure, int opacity) {
        if (layer == NONE) {
            return dressPaper(opacity);
        }
        if (!picture.hasLayer(layer) || !isDress(mode, figure, opacity)) {
            return BAD;
        }
        int was = picture.layers[layer].opacity;
        picture.layers[layer].wear(mode, figure, opacity);
        return was;
    }

    public int told(int layer, int what) {
        if (!picture.hasLayer(layer)) {
            return BAD;
        }
        Layer asked = picture.layers[layer];
        switch (what) {
            case 0:
                return asked.mode;
            case 1:
                return asked.figure;
            case 2:
                return asked.opacity;
            case 3:
                return asked.coveredDots();
            default:
                return BAD;
        }
    }

    public int taken(int layer, int k, int b) {
        if (!picture.hasLayer(layer) || !isWithin(k, 0, MODES - 1) || !isByte(b)) {
            return BAD;
        }
        Layer asked = picture.layers[layer];
        return isUnder(asked.mode, k) ? asked.makes(b, MODE_TRIED_INK) : UNLIKE;
    }

    public int dot(int layer, int x, int y, int what) {
        if (!isDot(x, y)) {
            return BAD;
        }
        if (layer == NONE) {
            return what == 0 ? seenAt(dotAt(x, y)) : BAD;
        }
        if (!picture.hasLayer(layer) || !isWithin(what, 0, 1)) {
            return BAD;
        }
        Layer asked = picture.layers[layer];
        return what == 0 ? asked.inks[dotAt(x, y)] : asked.covers[dotAt(x, y)];
    }

    // ---- brushes, acts

    public int brush(int kind, int radius, int ink, int flow) {
        boolean good = isWithin(kind, 0, KINDS - 1) && isWithin(radius, 0, RADIUS_MOST)
                && isWithin(ink, NONE, WHOLE) && isWithin(flow, 0, FLOW_MOST);
        if (!good) {
            return BAD;
        }
        int was = 10 * picture.brush.kind + picture.brush.radius;
        picture.brush.become(kind, radius, ink, flow);
        return was;
    }

    public int touch(int dx, int dy) {
        if (!isWithin(dx, -TOUCH_FAR, TOUCH_FAR) || !isWithin(dy, -TOUCH_FAR, TOUCH_FAR)) {
            return BAD;
        }
        return picture.brush.coverAt(dx, dy);
    }

    public int feed(int n, int a, int b, int c, int d, int e) {
        boolean good = isWithin(n, 1, FEED_MOST)
                && isByte(a) && isByte(b) && isByte(c) && isByte(d) && isByte(e);
        if (!good) {
            return BAD;
        }
        if (tape.size + n > TAPE_MOST) {
            return FULL;
        }
        tape.add(a);
        if (n > 1) {
            tape.add(b);
        }
        if (n > 2) {
            tape.add(c);
        }
        if (n > 3) {
            tape.add(d);
        }
        if (n > 4) {
            tape.add(e);
        }
        return tape.size;
    }

    public int stroke(int layer) {
        if (!picture.hasLayer(layer)) {
            return BAD;
        }
        tape.read();
        tape.size = 0;
        return tape.fault == NONE ? picture.drawStroke(layer, tape) : FAULTS - tape.fault;
    }

    public int box(int layer, int x, int y, int u, int v) {
        if (!picture.hasLayer(layer) || !isDot(x, y) || !isDot(u, v)) {
            return BAD;
        }
        choice.chooseBox(x, y, u, v);
        return picture.fillChosen(layer, choice.chosen);
    }

    public int flood(int layer, int x, int y, int t) {
        if (!picture.hasLayer(layer) || !isDot(x, y) || !isByte(t)) {
            return BAD;
        }
        choice.chooseRegion(picture.layers[layer], dotAt(x, y), t);
        return picture.fillChosen(layer, choice.chosen);
    }

    public int undo(int what) {
        switch (what) {
            case 0:
                return picture.acts.takeBack(picture.layers);
            case 1:
                return picture.acts.doAgain(picture.layers);
            default:
                return BAD;
        }
    }

    // ---- the mask

    public int mask(int x, int y, int u, int v, int how) {
        if (!isDot(x, y) || !isDot(u, v) || !isWithin(how, 0, 3)) {
            return BAD;
        }
        choice.chooseBox(x, y, u, v);
        picture.mask.join(choice.chosen, how);
        return picture.mask.size;
    }

    public int wand(int layer, int x, int y, int t, int how) {
        if (!picture.hasLayer(layer) || !isDot(x, y) || !isByte(t) || !isWithin(how, 0, 3)) {
            return BAD;
        }
        choice.chooseRegion(picture.layers[layer], dotAt(x, y), t);
        picture.mask.join(choice.chosen, how);
        return picture.mask.size;
    }

    public int grow(int what) {
        switch (what) {
            case 0:
                choice.chooseBeside(picture.mask.held, true);
                picture.mask.join(choice.chosen, 1);
                return picture.mask.size;
            case 1:
                choice.chooseBeside(picture.mask.held, false);
                picture.mask.join(choice.chosen, 2);
                return picture.mask.size;
            case 2:
                picture.mask.turn();
                return picture.mask.size;
            default:
                return BAD;
        }
    }

    public int masked(int y) {
        return isRow(y) ? picture.mask.rowBits(y) : BAD;
    }

    // ---- what is seen

    public int dither(int way, int y) {
        if (!isWithin(way, 0, 1) || !isRow(y)) {
            return BAD;
        }
        return way == 0 ? spreadDither(y) : patternDither(y);
    }

    public int areas(int what) {
        if (!isWithin(what, 0, 2)) {
            return BAD;
        }
        for (int i = 0; i < DOTS; i++) {
            choice.keys[i] = seenAt(i);
        }
        choice.clear();
        int areaCount = 0;
        int greatest = 0;
        int seenOfGreatest = 0;
        for (int i = 0; i < DOTS; i++) {
            if (!choice.chosen[i]) {
                int size = choice.spreadFrom(i);
                areaCount++;
                if (size > greatest) {
                    greatest = size;
                    seenOfGreatest = choice.keys[i];
                }
            }
        }
        if (what == 0) {
            return areaCount;
        }
        return what == 1 ? greatest : seenOfGreatest;
    }

    public int sprayed(int layer, int seed, int n) {
        if (!picture.hasLayer(layer) || !isWithin(n, 0, SPRAY_MOST)) {
            return BAD;
        }
        sprayThought(layer, seed, n);
        int otherwise = 0;
        for (int i = 0; i < DOTS; i++) {
            if (isOtherwiseInThought(layer, i)) {
                otherwise++;
            }
        }
        return otherwise;
    }

    public int chance(int layer, int seed, int m, int x, int y, int part) {
        boolean good = picture.hasLayer(layer) && isWithin(m, 1, SEEDS_MOST)
                && isDot(x, y) && isWithin(part, 0, 1);
        if (!good) {
            return BAD;
        }
        int otherwise = 0;
        for (int i = 0; i < m; i++) {
            sprayThought(layer, seed + i, CHANCE_STAMPS);
            if (isOtherwiseInThought(layer, dotAt(x, y))) {
                otherwise++;
            }
        }
        return part == 0 ? inLowestTerms(otherwise, m) : inLowestTerms(m, otherwise);
    }

    // ---- what was told

    public int tells(int sheet, int y, int what) {
        if (!isSheet(sheet) || !isRow(y) || !isWithin(what, 0, picture.layerCount + 1)) {
            return BAD;
        }
        Sheet row = sheets[sheet];
        if (row.isMissing()) {
            return MISSING;
        }
        if (row.size > WIDTH) {
            return BAD;
        }
        if (what == 0) {
            return firstOtherwise(row, y, picture.paper, NONE);
        }
        return what == 1 ? papersTold(row, y) : modesTold(row, y, what - 2);
    }

    public int film(int sheet, int y) {
        if (!isSheet(sheet) || !isRow(y)) {
            return BAD;
        }
        sheets[sheet].become(SHORTS, WIDTH);
        for (int x = 0; x < WIDTH; x++) {
            sheets[sheet].set(x, seenAt(dotAt(x, y)));
        }
        return WIDTH;
    }

    public int image() {
        kept.become(picture);
        hasImage = true;
        return kept.layerCount;
    }

    public int back() {
        if (!hasImage) {
            return STATE;
        }
        picture.become(kept);
        return picture.layerCount;
    }

    public int count(int what) {
        switch (what) {
            case 0:
                return picture.layerCount;
            case 1:
                return picture.acts.keptCount;
            case 2:
                return picture.acts.undoneCount;
            case 3:
                return picture.acts.tileCount();
            case 4:
                return picture.mask.size;
            case 5:
                return picture.brush.flow;
            case 6:
                return picture.brush.ink;
            case 7:
                return tape.size;
            default:
                return BAD;
        }
    }

    // ---- the host

    public int sheet(int sheet, int sort, int n) {
        if (!isSheet(sheet) || !isWithin(sort, NONE, INTS)) {
            return BAD;
        }
        if (sort == NONE) {
            sheets[sheet].become(NONE, 0);
            return 1;
        }
        if (n > SHEET_MOST) {
            return BAD;
        }
        if (n < 0) {
            return BELOW_ZERO;
        }
        sheets[sheet].become(sort, n);
        return 1;
    }

    public int put(int sheet, int i, int v) {
        if (!isSheet(sheet)) {
            return BAD;
        }
        Sheet row = sheets[sheet];
        if (row.isMissing()) {
            return MISSING;
        }
        if (i < 0 || i >= row.size) {
            return OUTSIDE;
        }
        row.set(i, v);
        return 1;
    }

    public int copy(int sheet, int i, int other, int j, int n) {
        if (!isSheet(sheet) || !isSheet(other)) {
            return BAD;
        }
        Sheet from = sheets[sheet];
        Sheet to = sheets[other];
        if (from.isMissing() || to.isMissing()) {
            return MISSING;
        }
        if (from.sort != to.sort) {
            return UNLIKE;
        }
        if (!from.hasPart(i, n) || !to.hasPart(j, n)) {
            return OUTSIDE;
        }
        // arraycopy reads all before it writes, also where the two are one sheet
        System.arraycopy(from.items, i, to.items, j, n);
        return n;
    }

    // ---- what numbers may be

    private static boolean isWithin(int v, int least, int most) {
        return v >= least && v <= most;
    }

    private static boolean isByte(int v) {
        return isWithin(v, 0, WHOLE);
    }

    private static boolean isRow(int y) {
        return isWithin(y, 0, HEIGHT - 1);
    }

    private static boolean isDot(int x, int y) {
        return isWithin(x, 0, WIDTH - 1) && isRow(y);
    }

    private static boolean isSheet(int sheet) {
        return isWithin(sheet, 0, SHEETS - 1);
    }

    private static boolean isDress(int mode, int figure, int opacity) {
        return isWithin(mode, 0, MODES - 1) && isWithin(figure, 0, FIGURE_MOST) && isByte(opacity);
    }

    private static boolean isUnder(int mode, int k) {
        int at = mode;
        for (int step = 0; step < MODES && isWithin(at, 0, MODES - 1); step++) {
            if (at == k) {
                return true;
            }
            at = MODE_ABOVE[at];
        }
        return false;
    }

    private static int dotAt(int x, int y) {
        return y * WIDTH + x;
    }

    /** One side of a fraction; neither side is above the number of seeds. */
    private static int inLowestTerms(int side, int otherSide) {
        for (int d = SEEDS_MOST; d > 1; d--) {
            if (side % d == 0 && otherSide % d == 0) {
                return side / d;
            }
        }
        return side;
    }

    // ---- helpers of the face

    private int dressPaper(int opacity) {
        if (!isByte(opacity)) {
            return BAD;
        }
        int was = picture.paper;
        picture.paper = opacity;
        return was;
    }

    private int seenAt(int at) {
        return picture.seenIf(at, picture.paper, NONE, thought);
    }

    private int spreadDither(int y) {
        Arrays.fill(lefts, 0);
        int bits = 0;
        for (int row = 0; row <= y; row++) {
            bits = 0;
            for (int x = 0; x < WIDTH; x++) {
                int value = seenAt(dotAt(x, row)) + lefts[dotAt(x, row)];
                boolean light = value >= DARK_BELOW;
                if (light) {
                    bits |= 1 << x;
                }
                spreadLeft(x, row, light ? value - WHOLE : value);
            }
        }
        return bits;
    }

    private void spreadLeft(int x, int y, int left) {
        leave(x + 1, y, 7 * left / 16);
        leave(x - 1, y + 1, 3 * left / 16);
        leave(x, y + 1, 5 * left / 16);
        leave(x + 1, y + 1, left / 16);
    }

    private void leave(int x, int y, int part) {
        if (isDot(x, y)) {
            lefts[dotAt(x, y)] += part;
        }
    }

    private int patternDither(int y) {
        int bits = 0;
        for (int x = 0; x < WIDTH; x++) {
            int threshold = THRESHOLDS[y % 4 * 4 + x % 4];
            if (seenAt(dotAt(x, y)) > 16 * threshold + 7) {
                bits |= 1 << x;
            }
        }
        return bits;
    }

    private void sprayThought(int layer, int seed, int n) {
        thought.become(picture.layers[layer]);
        int z = seed;
        for (int k = 0; k < n; k++) {
            z = drawnAfter(z);
            int x = (z >>> 9) % WIDTH;
            z = drawnAfter(z);
            int y = (z >>> 9) % HEIGHT;
            picture.stamp(thought, x, y);
        }
    }

    private static int drawnAfter(int z) {
        return z * 1103515245 + 12345;
    }

    private boolean isOtherwiseInThought(int layer, int at) {
        return seenAt(at) != picture.seenIf(at, picture.paper, layer, thought);
    }

    /** The first dot of row y that a sheet tells wrongly, the thought standing in a layer's place. */
    private int firstOtherwise(Sheet row, int y, int paper, int place) {
        for (int x = 0; x < WIDTH && x < row.size; x++) {
            if (row.items[x] != picture.seenIf(dotAt(x, y), paper, place, thought)) {
                return x;
            }
        }
        return NONE;
    }

    private int papersTold(Sheet row, int y) {
        int papers = 0;
        for (int paper = 0; paper <= WHOLE; paper++) {
            if (firstOtherwise(row, y, paper, NONE) == NONE) {
                papers++;
            }
        }
        return papers;
    }

    private int modesTold(Sheet row, int y, int layer) {
        thought.become(picture.layers[layer]);
        int bits = 0;
        for (int mode = 0; mode < MODES; mode++) {
            thought.mode = mode;
            if (firstOtherwise(row, y, picture.paper, layer) == NONE) {
                bits |= 1 << mode;
            }
        }
        return bits;
    }

    // ---- the parts

    private static final class Layer {
        final int[] inks = new int[DOTS];
        final int[] covers = new int[DOTS];
        int mode;
        int figure;
        int opacity;

        void clear() {
            Arrays.fill(inks, 0);
            Arrays.fill(covers, 0);
        }

        void wear(int newMode, int newFigure, int newOpacity) {
            mode = newMode;
            figure = newFigure;
            opacity = newOpacity;
        }

        void become(Layer other) {
            System.arraycopy(other.inks, 0, inks, 0, DOTS);
            System.arraycopy(other.covers, 0, covers, 0, DOTS);
            wear(other.mode, other.figure, other.opacity);
        }

        int coveredDots() {
            int covered = 0;
            for (int i = 0; i < DOTS; i++) {
                if (covers[i] != 0) {
                    covered++;
                }
            }
            return covered;
        }

        void paint(int at, int ink, int by) {
            if (by == 0) {
                return;
            }
            int was = inks[at];
            inks[at] = covers[at] == 0 ? ink : was + (ink - was) * by / WHOLE;
            covers[at] += (WHOLE - covers[at]) * by / WHOLE;
        }

        void wipe(int at, int by) {
            covers[at] = covers[at] * (WHOLE - by) / WHOLE;
            if (covers[at] == 0) {
                inks[at] = 0;
            }
        }

        int makes(int below, int ink) {
            switch (mode) {
                case TIMES:
                    return times(below, ink);
                case SCREEN:
                    return screened(below, ink);
                case BURN:
                    return Math.max(times(below, ink) - figure, 0);
                case GLOW:
                    return Math.min(screened(below, ink) + figure, WHOLE);
                case APART:
                    return Math.abs(below - ink);
                default:
                    return ink;
            }
        }

        private static int times(int below, int ink) {
            return below * ink / WHOLE;
        }

        private static int screened(int below, int ink) {
            return WHOLE - (WHOLE - below) * (WHOLE - ink) / WHOLE;
        }

        int seenOver(int below, int at) {
            int by = covers[at] * opacity / WHOLE;
            return below + (makes(below, inks[at]) - below) * by / WHOLE;
        }
    }

    private static final class Brush {
        int kind = ROUND;
        int radius = 1;
        int ink = 0;
        int flow = FLOW_MOST;

        void become(int newKind, int newRadius, int newInk, int newFlow) {
            kind = newKind;
            radius = newRadius;
            ink = newInk;
            flow = newFlow;
        }

        int coverAt(int dx, int dy) {
            switch (kind) {
                case SOFT:
                    return soft(dx, dy);
                case SQUARE:
                    return square(dx, dy);
                case AIR:
                    return (int) ((float) soft(dx, dy) * (float) flow / 9f);
                case CROSS:
                    return dx == 0 || dy == 0 ? square(dx, dy) : 0;
                default:
                    return round(dx, dy);
            }
        }

        private int round(int dx, int dy) {
            return dx * dx + dy * dy <= radius * radius ? WHOLE : 0;
        }

        private int soft(int dx, int dy) {
            float far = (float) (dx * dx + dy * dy);
            float end = (float) (radius * radius + 1);
            return (int) ((float) round(dx, dy) * (1f - far / end));
        }

        private int square(int dx, int dy) {
            return Math.abs(dx) <= radius && Math.abs(dy) <= radius ? WHOLE : 0;
        }
    }

    private static final class Mask {
        final boolean[] held = new boolean[DOTS];
        int size;

        boolean isFree(int at) {
            return size == 0 || held[at];
        }

        void join(boolean[] chosen, int how) {
            for (int i = 0; i < DOTS; i++) {
                held[i] = isHeldAfter(held[i], chosen[i], how);
            }
            recount();
        }

        private static boolean isHeldAfter(boolean was, boolean chosen, int how) {
            switch (how) {
                case 0:
                    return chosen;
                case 1:
                    return was || chosen;
                case 2:
                    return was && !chosen;
                default:
                    return was && chosen;
            }
        }

        void turn() {
            for (int i = 0; i < DOTS; i++) {
                held[i] = !held[i];
            }
            recount();
        }

        private void recount() {
            size = 0;
            for (int i = 0; i < DOTS; i++) {
                if (held[i]) {
                    size++;
                }
            }
        }

        int rowBits(int y) {
            int bits = 0;
            for (int x = 0; x < WIDTH; x++) {
                if (held[dotAt(x, y)]) {
                    bits |= 1 << x;
                }
            }
            return bits;
        }
    }

    /** Dots chosen for an act, for the mask, or as an area. */
    private static final class Choice {
        final boolean[] chosen = new boolean[DOTS];
        /** Spreading goes from dot to dot of one key. */
        final int[] keys = new int[DOTS];
        private final int[] queue = new int[DOTS];
        private int queued;

        void clear() {
            for (int i = 0; i < DOTS; i++) {
                chosen[i] = false;
            }
        }

        void chooseBox(int x, int y, int u, int v) {
            clear();
            for (int row = Math.min(y, v); row <= Math.max(y, v); row++) {
                for (int column = Math.min(x, u); column <= Math.max(x, u); column++) {
                    chosen[dotAt(column, row)] = true;
                }
            }
        }

        void chooseRegion(Layer layer, int start, int t) {
            int ink = layer.inks[start];
            int cover = layer.covers[start];
            for (int i = 0; i < DOTS; i++) {
                boolean near = Math.abs(layer.inks[i] - ink) <= t && Math.abs(layer.covers[i] - cover) <= t;
                keys[i] = near ? 1 : 0;
            }
            clear();
            spreadFrom(start);
        }

        /** Chooses the dots that have one beside them which is held (or isn't). */
        void chooseBeside(boolean[] held, boolean wanted) {
            for (int i = 0; i < DOTS; i++) {
                int x = i % WIDTH;
                int y = i / WIDTH;
                chosen[i] = isHeldAs(held, wanted, x - 1, y) || isHeldAs(held, wanted, x + 1, y)
                        || isHeldAs(held, wanted, x, y - 1) || isHeldAs(held, wanted, x, y + 1);
            }
        }

        private static boolean isHeldAs(boolean[] held, boolean wanted, int x, int y) {
            return isDot(x, y) && held[dotAt(x, y)] == wanted;
        }

        int spreadFrom(int start) {
            queued = 0;
            reach(start % WIDTH, start / WIDTH, keys[start]);
            for (int next = 0; next < queued; next++) {
                int x = queue[next] % WIDTH;
                int y = queue[next] / WIDTH;
                reach(x - 1, y, keys[start]);
                reach(x + 1, y, keys[start]);
                reach(x, y - 1, keys[start]);
                reach(x, y + 1, keys[start]);
            }
            return queued;
        }

        private void reach(int x, int y, int key) {
            if (!isDot(x, y) || queued >= DOTS) {
                return;
            }
            int at = dotAt(x, y);
            if (!chosen[at] && keys[at] == key) {
                chosen[at] = true;
                queue[queued] = at;
                queued++;
            }
        }
    }

    /** What an act changed: those tiles as they were, or, once it is undone, as it made them. */
    private static final class Act {
        int layer;
        int tiles;
        final int[] inks = new int[DOTS];
        final int[] covers = new int[DOTS];

        void note(int layerNumber, Layer before) {
            layer = layerNumber;
            System.arraycopy(before.inks, 0, inks, 0, DOTS);
            System.arraycopy(before.covers, 0, covers, 0, DOTS);
        }

        void become(Act other) {
            layer = other.layer;
            tiles = other.tiles;
            System.arraycopy(other.inks, 0, inks, 0, DOTS);
            System.arraycopy(other.covers, 0, covers, 0, DOTS);
        }

        void findTiles(Layer after) {
            tiles = 0;
            for (int i = 0; i < DOTS; i++) {
                if (inks[i] != after.inks[i] || covers[i] != after.covers[i]) {
                    tiles |= tileBit(i);
                }
            }
        }

        void swapTiles(Layer with) {
            for (int i = 0; i < DOTS; i++) {
                if ((tiles & tileBit(i)) != 0) {
                    int ink = inks[i];
                    int cover = covers[i];
                    inks[i] = with.inks[i];
                    covers[i] = with.covers[i];
                    with.inks[i] = ink;
                    with.covers[i] = cover;
                }
            }
        }

        private static int tileBit(int at) {
            int column = at % WIDTH / 4;
            int row = at / WIDTH / 4;
            return 1 << row * 4 + column;
        }
    }

    /** The kept acts, oldest first, behind them those that can be done again, and one spare. */
    private static final class Acts {
        private final Act[] all = new Act[ACTS_MOST + 1];
        int keptCount;
        int undoneCount;

        Acts() {
            for (int i = 0; i <= ACTS_MOST; i++) {
                all[i] = new Act();
            }
        }

        void forget() {
            keptCount = 0;
            undoneCount = 0;
        }

        void become(Acts other) {
            keptCount = other.keptCount;
            undoneCount = other.undoneCount;
            for (int i = 0; i < ACTS_MOST; i++) {
                all[i].become(other.all[i]);
            }
        }

        void begin(int layerNumber, Layer before) {
            all[ACTS_MOST].note(layerNumber, before);
        }

        void end(Layer after) {
            Act latest = all[ACTS_MOST];
            latest.findTiles(after);
            if (latest.tiles == 0) {
                return;
            }
            undoneCount = 0;
            if (keptCount >= ACTS_MOST) {
                dropOldest();
            }
            all[ACTS_MOST] = all[keptCount];
            all[keptCount] = latest;
            keptCount++;
        }

        private void dropOldest() {
            Act oldest = all[0];
            for (int i = 0; i < ACTS_MOST - 1; i++) {
                all[i] = all[i + 1];
            }
            all[ACTS_MOST - 1] = oldest;
            keptCount = ACTS_MOST - 1;
        }

        int takeBack(Layer[] layers) {
            if (keptCount == 0) {
                return STATE;
            }
            keptCount--;
            undoneCount++;
            return swapped(all[keptCount], layers);
        }

        int doAgain(Layer[] layers) {
            if (undoneCount == 0) {
                return STATE;
            }
            keptCount++;
            undoneCount--;
            return swapped(all[keptCount - 1], layers);
        }

        private static int swapped(Act act, Layer[] layers) {
            act.swapTiles(layers[act.layer]);
            return Integer.bitCount(act.tiles);
        }

        int tileCount() {
            int tiles = 0;
            for (int i = 0; i < keptCount + undoneCount; i++) {
                tiles += Integer.bitCount(all[i].tiles);
            }
            return tiles;
        }
    }

    /** All that an image keeps. */
    private static final class Picture {
        final Layer[] layers = new Layer[LAYERS_MOST];
        int layerCount;
        int paper = WHOLE;
        final Mask mask = new Mask();
        final Brush brush = new Brush();
        final Acts acts = new Acts();

        Picture() {
            for (int i = 0; i < LAYERS_MOST; i++) {
                layers[i] = new Layer();
            }
        }

        void become(Picture other) {
            for (int i = 0; i < LAYERS_MOST; i++) {
                layers[i].become(other.layers[i]);
            }
            layerCount = other.layerCount;
            paper = other.paper;
            mask.join(other.mask.held, 0);
            brush.become(other.brush.kind, other.brush.radius, other.brush.ink, other.brush.flow);
            acts.become(other.acts);
        }

        boolean hasLayer(int layer) {
            return layer >= 0 && layer < layerCount;
        }

        int addLayer(int mode, int figure, int opacity) {
            acts.forget();
            layers[layerCount].clear();
            layers[layerCount].wear(mode, figure, opacity);
            layerCount++;
            return layerCount - 1;
        }

        void removeLayer(int layer) {
            shiftLayer(layer, layerCount - 1);
            layerCount--;
        }

        void shiftLayer(int layer, int to) {
            acts.forget();
            Layer shifted = layers[layer];
            for (int i = layer; i < to; i++) {
                layers[i] = layers[i + 1];
            }
            for (int i = layer; i > to; i--) {
                layers[i] = layers[i - 1];
            }
            layers[to] = shifted;
        }

        /** SEEN of a dot, were paper this and the layer at place (if any) the other one. */
        int seenIf(int at, int paperThen, int place, Layer other) {
            int below = paperThen;
            for (int i = 0; i < layerCount; i++) {
                Layer layer = i == place ? other : layers[i];
                below = layer.seenOver(below, at);
            }
            return below;
        }

        int drawStroke(int layer, Tape tape) {
            acts.begin(layer, layers[layer]);
            stamp(layers[layer], tape.xs[0], tape.ys[0]);
            int stamps = 1;
            for (int i = 1; i < tape.places; i++) {
                stamps += drawLine(layers[layer], tape.xs[i - 1], tape.ys[i - 1], tape.xs[i], tape.ys[i]);
            }
            acts.end(layers[layer]);
            return stamps;
        }

        private int drawLine(Layer layer, int x, int y, int u, int v) {
            int n = Math.max(Math.abs(u - x), Math.abs(v - y));
            for (int k = 1; k <= n; k++) {
                stamp(layer, between(x, u, k, n), between(y, v, k, n));
            }
            return n;
        }

        private static int between(int from, int to, int k, int n) {
            if (n < 1) {
                return from;
            }
            return from + Math.floorDiv(2 * k * (to - from) + n, 2 * n);
        }

        void stamp(Layer layer, int x, int y) {
            int lastRow = Math.min(y + brush.radius, HEIGHT - 1);
            int lastColumn = Math.min(x + brush.radius, WIDTH - 1);
            for (int row = Math.max(y - brush.radius, 0); row <= lastRow; row++) {
                for (int column = Math.max(x - brush.radius, 0); column <= lastColumn; column++) {
                    if (mask.isFree(dotAt(column, row))) {
                        apply(layer, dotAt(column, row), brush.coverAt(column - x, row - y));
                    }
                }
            }
        }

        int fillChosen(int layer, boolean[] chosen) {
            acts.begin(layer, layers[layer]);
            int filled = 0;
            for (int i = 0; i < DOTS; i++) {
                if (chosen[i] && mask.isFree(i)) {
                    apply(layers[layer], i, WHOLE);
                    filled++;
                }
            }
            acts.end(layers[layer]);
            return filled;
        }

        private void apply(Layer layer, int at, int by) {
            if (brush.ink == NONE) {
                layer.wipe(at, by);
            } else {
                layer.paint(at, brush.ink, by);
            }
        }
    }

    /** The tape, and the stroke that was read from it last. */
    private static final class Tape {
        final int[] bytes = new int[TAPE_MOST];
        int size;
        final int[] xs = new int[TAPE_MOST];
        final int[] ys = new int[TAPE_MOST];
        int places;
        int fault;
        private int start;
        private int end;

        void add(int b) {
            if (size < TAPE_MOST) {
                bytes[size] = b;
                size++;
            }
        }

        void read() {
            places = 0;
            fault = NONE;
            end = 0;
            nextToken();
            if (isWord("move")) {
                readPlace();
            } else {
                fault = start;
            }
            for (int step = 0; step < TAPE_MOST && fault == NONE; step++) {
                nextToken();
                if (start >= size) {
                    return;
                }
                readStep();
            }
        }

        private void readStep() {
            int last = places - 1;
            if (!isWithin(last, 0, TAPE_MOST - 1)) {
                fault = start;
            } else if (isWord("line")) {
                readPlace();
            } else if (isWord("across")) {
                goTo(readNumber(WIDTH - 1), ys[last]);
            } else if (isWord("down")) {
                goTo(xs[last], readNumber(HEIGHT - 1));
            } else if (isWord("close")) {
                goTo(xs[0], ys[0]);
            } else {
                fault = start;
            }
        }

        private void readPlace() {
            int x = readNumber(WIDTH - 1);
            int y = readNumber(HEIGHT - 1);
            goTo(x, y);
        }

        private void goTo(int x, int y) {
            if (fault == NONE && places < TAPE_MOST) {
                xs[places] = x;
                ys[places] = y;
                places++;
            }
        }

        private int readNumber(int most) {
            if (fault != NONE) {
                return 0;
            }
            nextToken();
            int number = tokenNumber();
            if (!isWithin(number, 0, most)) {
                fault = start;
                return 0;
            }
            return number;
        }

        /** What a token of one or two digits says; NONE of any other. */
        private int tokenNumber() {
            if (end - start < 1 || end - start > 2 || end > size || !isDigit(bytes[start])) {
                return NONE;
            }
            int number = 0;
            for (int i = start; i < end; i++) {
                number = 10 * number + bytes[i] - '0';
            }
            return number;
        }

        private boolean isWord(String word) {
            if (end - start != word.length() || end > size) {
                return false;
            }
            for (int i = start; i < end; i++) {
                if (bytes[i] != word.charAt(i - start)) {
                    return false;
                }
            }
            return true;
        }

        /** The token from start up to end; it is empty at the text's end and at a byte that begins none. */
        private void nextToken() {
            start = end;
            while (start < size && isBlank(bytes[start])) {
                start++;
            }
            end = start;
            while (end < size && isLetter(bytes[end])) {
                end++;
            }
            if (end > start) {
                return;
            }
            while (end < size && isDigit(bytes[end])) {
                end++;
            }
        }

        private static boolean isBlank(int b) {
            return b == 32 || b == 10;
        }

        private static boolean isLetter(int b) {
            return b >= 'a' && b <= 'z';
        }

        private static boolean isDigit(int b) {
            return b >= '0' && b <= '9';
        }
    }

    private static final class Sheet {
        int sort = NONE;
        int size;
        final int[] items = new int[SHEET_MOST];

        boolean isMissing() {
            return sort == NONE;
        }

        void become(int newSort, int newSize) {
            sort = newSort;
            size = newSize;
            Arrays.fill(items, 0);
        }

        void set(int i, int v) {
            if (i >= 0 && i < size) {
                items[i] = sort == SHORTS ? (short) v : v;
            }
        }

        boolean hasPart(int i, int n) {
            return n >= 0 && i >= 0 && i <= size && n <= size - i;
        }
    }
}
