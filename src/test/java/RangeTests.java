/**
 * The bounds of every number of every call: the last that is allowed and the first that isn't, on both sides,
 * and the least and the greatest int. Behind each refused call Twins look at all the rest.
 */
final class RangeTests {
    private static final Check CHECK = new Check("RangeTests");
    private static final int[] ANY = null;
    private static final int[] X = {0, 15};
    private static final int[] Y = {0, 11};
    private static final int[] BYTE = {0, 255};
    private static final int[] MODE = {0, 5};
    private static final int[] FIGURE = {0, 99};
    private static final int[] KIND = {0, 4};
    private static final int[] RADIUS = {0, 4};
    private static final int[] INK = {-1, 255};
    private static final int[] FLOW = {0, 9};
    private static final int[] FAR = {-9, 9};
    private static final int[] HOW = {0, 3};
    private static final int[] SHEET = {0, 3};

    private interface Asked {
        int on(RasterPainter p, int[] a);
    }

    private final Twins twins;
    private final int layers;

    private RangeTests(Twins twins, int layers) {
        this.twins = twins;
        this.layers = layers;
    }

    public static void main(String[] args) {
        new RangeTests(new Twins(CHECK, "two layers", Prepared::worked), 2).all();
        new RangeTests(new Twins(CHECK, "four layers", Prepared::crowded), 4).all();
        CHECK.close();
    }

    private void all() {
        layers();
        brushesAndActs();
        mask();
        seen();
        told();
        host();
    }

    private void layers() {
        int[] layer = {0, layers - 1};
        int[] layerOrNone = {-1, layers - 1};
        int top = layers - 1;
        range("layer", (p, a) -> p.layer(a[0], a[1], a[2]), MODE, FIGURE, BYTE);
        range("drop", (p, a) -> p.drop(a[0]), layer);
        range("move", (p, a) -> p.move(a[0], a[1]), layer, layer);
        range("dress, whom", (p, a) -> p.dress(a[0], 0, 0, 0), layerOrNone);
        range("dress", (p, a) -> p.dress(top, a[0], a[1], a[2]), MODE, FIGURE, BYTE);
        range("dress PAPER", (p, a) -> p.dress(-1, a[0], a[1], a[2]), ANY, ANY, BYTE);
        range("told", (p, a) -> p.told(a[0], a[1]), layer, new int[] {0, 3});
        range("taken", (p, a) -> p.taken(a[0], a[1], a[2]), layer, MODE, BYTE);
        range("dot, of whom", (p, a) -> p.dot(a[0], 0, 0, 0), layerOrNone);
        range("dot", (p, a) -> p.dot(top, a[0], a[1], a[2]), X, Y, new int[] {0, 1});
        range("dot SEEN", (p, a) -> p.dot(-1, a[0], a[1], a[2]), X, Y, new int[] {0, 0});
    }

    private void brushesAndActs() {
        int[] layer = {0, layers - 1};
        range("brush", (p, a) -> p.brush(a[0], a[1], a[2], a[3]), KIND, RADIUS, INK, FLOW);
        range("touch", (p, a) -> p.touch(a[0], a[1]), FAR, FAR);
        range("feed", (p, a) -> p.feed(a[0], a[1], a[2], a[3], a[4], a[5]),
                new int[] {1, 5}, BYTE, BYTE, BYTE, BYTE, BYTE);
        range("stroke", (p, a) -> p.stroke(a[0]), layer);
        range("box", (p, a) -> p.box(a[0], a[1], a[2], a[3], a[4]), layer, X, Y, X, Y);
        range("flood", (p, a) -> p.flood(a[0], a[1], a[2], a[3]), layer, X, Y, BYTE);
        range("undo", (p, a) -> p.undo(a[0]), new int[] {0, 1});
    }

    private void mask() {
        int[] layer = {0, layers - 1};
        range("mask", (p, a) -> p.mask(a[0], a[1], a[2], a[3], a[4]), X, Y, X, Y, HOW);
        range("wand", (p, a) -> p.wand(a[0], a[1], a[2], a[3], a[4]), layer, X, Y, BYTE, HOW);
        range("grow", (p, a) -> p.grow(a[0]), new int[] {0, 2});
        range("masked", (p, a) -> p.masked(a[0]), Y);
    }

    private void seen() {
        int[] layer = {0, layers - 1};
        range("dither", (p, a) -> p.dither(a[0], a[1]), new int[] {0, 1}, Y);
        range("areas", (p, a) -> p.areas(a[0]), new int[] {0, 2});
        range("sprayed", (p, a) -> p.sprayed(a[0], a[1], a[2]), layer, ANY, new int[] {0, 30});
        range("chance", (p, a) -> p.chance(a[0], a[1], a[2], a[3], a[4], a[5]),
                layer, ANY, new int[] {1, 10}, X, Y, new int[] {0, 1});
    }

    private void told() {
        range("tells", (p, a) -> p.tells(Prepared.FILM, a[0], a[1]), Y, new int[] {0, layers + 1});
        range("film", (p, a) -> p.film(a[0], a[1]), SHEET, Y);
        range("count", (p, a) -> p.count(a[0]), new int[] {0, 7});
        range("tells, which", (p, a) -> tellsOfShort(p, a[0]), SHEET);
    }

    /** A sheet of one number, since one of more than 16 would be refused, too. */
    private static int tellsOfShort(RasterPainter p, int sheet) {
        p.sheet(sheet, 0, 1);
        return p.tells(sheet, 0, 0);
    }

    private void host() {
        range("sheet", (p, a) -> p.sheet(a[0], a[1], 5), SHEET, new int[] {-1, 1});
        range("sheet, missing", (p, a) -> p.sheet(a[0], -1, a[1]), SHEET, ANY);
        range("put", (p, a) -> p.put(a[0], a[1], a[2]), SHEET, ANY, ANY);
        range("copy", (p, a) -> p.copy(a[0], a[1], a[2], a[3], a[4]), SHEET, ANY, SHEET, ANY, ANY);
    }

    /** Each number at and beside its bounds, the others being all at their least, then all at their most. */
    private void range(String name, Asked asked, int[]... ranges) {
        for (int end = 0; end < 2; end++) {
            int[] others = new int[ranges.length];
            for (int i = 0; i < ranges.length; i++) {
                others[i] = ranges[i] == ANY ? 0 : ranges[i][end];
            }
            for (int place = 0; place < ranges.length; place++) {
                bounds(name + ", number " + place, asked, others, place, ranges[place]);
            }
        }
    }

    private void bounds(String name, Asked asked, int[] others, int place, int[] range) {
        int[] ends = {Integer.MIN_VALUE, Integer.MAX_VALUE};
        for (int allowed : range == ANY ? ends : range) {
            twins.allow(name + ": " + allowed, p -> asked.on(p, with(others, place, allowed)));
        }
        if (range != ANY) {
            int[] wrong = {range[0] - 1, range[1] + 1, Integer.MIN_VALUE, Integer.MAX_VALUE};
            for (int w : wrong) {
                twins.refuse(name + ": " + w, p -> asked.on(p, with(others, place, w)), Hand.BAD);
            }
        }
    }

    private static int[] with(int[] others, int place, int v) {
        int[] all = others.clone();
        all[place] = v;
        return all;
    }
}
