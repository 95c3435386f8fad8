/** Promises 1 to 8. */
final class LayerTests {
    private static final Check CHECK = new Check("LayerTests");

    private LayerTests() {
    }

    public static void main(String[] args) {
        promise1NewObject();
        promise1ObjectsAreApart();
        promise2Layer();
        promise2ForgetsActs();
        promise3Drop();
        promise4Move();
        promise5Dress();
        promise5Paper();
        promise6Told();
        promise7Makes();
        promise8Dot();
        promise8Seen();
        promise8SeenByModes();
        CHECK.close();
    }

    private static void due(String what, long got, long want) {
        CHECK.due(what, got, want);
    }

    private static void promise1NewObject() {
        RasterPainter p = new RasterPainter();
        int[] counts = {0, 0, 0, 0, 0, 9, 0, 0};
        for (int what = 0; what < 8; what++) {
            due("new: count " + what, p.count(what), counts[what]);
        }
        for (int y = 0; y < 12; y++) {
            due("new: masked", p.masked(y), 0);
            for (int x = 0; x < 16; x++) {
                due("new: SEEN is PAPER", p.dot(-1, x, y, 0), 255);
            }
        }
        for (int sheet = 0; sheet < 4; sheet++) {
            due("new: sheets are missing", p.put(sheet, 0, 0), Hand.MISSING);
        }
        due("new: no image", p.back(), Hand.STATE);
        due("new: no act", p.undo(0), Hand.STATE);
        due("new: none undone", p.undo(1), Hand.STATE);
        due("new: no layer", p.told(0, 0), Hand.BAD);
        due("new: paper 255", p.dress(-1, 0, 0, 0), 255);
        due("new: round brush, radius 1", p.brush(0, 0, 0, 0), 1);
    }

    private static void promise1ObjectsAreApart() {
        RasterPainter p = Hand.withLayers(2);
        p.box(0, 0, 0, 15, 11);
        p.sheet(0, 1, 5);
        p.image();
        RasterPainter q = new RasterPainter();
        due("apart: layers", q.count(0), 0);
        due("apart: sheet", q.put(0, 0, 0), Hand.MISSING);
        due("apart: image", q.back(), Hand.STATE);
        due("apart: seen", q.dot(-1, 0, 0, 0), 255);
    }

    private static void promise2Layer() {
        RasterPainter p = new RasterPainter();
        due("layer 0", p.layer(0, 0, 0), 0);
        due("layer 1", p.layer(5, 99, 255), 1);
        due("layer 2", p.layer(3, 1, 7), 2);
        due("layer 3", p.layer(4, 50, 128), 3);
        due("layer mode", p.told(1, 0), 5);
        due("layer figure", p.told(1, 1), 99);
        due("layer opacity", p.told(1, 2), 255);
        due("layer count", p.count(0), 4);
        due("layer FULL", p.layer(0, 0, 0), Hand.FULL);
        due("layer FULL leaves", p.count(0), 4);
        due("layer BAD before FULL", p.layer(6, 0, 0), Hand.BAD);
        due("layer BAD figure before FULL", p.layer(0, 100, 0), Hand.BAD);
        due("layer BAD opacity before FULL", p.layer(0, 0, 256), Hand.BAD);
        RasterPainter q = Hand.withLayers(2);
        q.brush(0, 0, 50, 9);
        q.box(0, 0, 0, 15, 11);
        q.box(1, 0, 0, 15, 11);
        q.drop(1);
        q.layer(2, 3, 4);
        due("layer comes empty", q.told(1, 3), 0);
        due("layer comes with ink 0", q.dot(1, 3, 3, 0), 0);
        due("layer below stays", q.told(0, 3), 192);
    }

    private static void promise2ForgetsActs() {
        RasterPainter p = Hand.withLayers(1);
        p.box(0, 0, 0, 0, 0);
        p.box(0, 5, 0, 5, 0);
        p.undo(0);
        due("acts before layer", p.count(1) * 10 + p.count(2), 11);
        p.layer(9, 0, 0);
        due("acts stay by a refusal", p.count(1) * 10 + p.count(2), 11);
        p.layer(0, 0, 0);
        due("acts go by layer", p.count(1), 0);
        due("undone go by layer", p.count(2), 0);
        due("tiles go by layer", p.count(3), 0);
        due("no undo behind layer", p.undo(0), Hand.STATE);
        due("no redo behind layer", p.undo(1), Hand.STATE);
        due("dots stay", p.told(0, 3), 1);
    }

    private static RasterPainter withFigures() {
        RasterPainter p = new RasterPainter();
        for (int i = 0; i < 4; i++) {
            p.layer(i, 10 + i, 20 + i);
            p.brush(0, 0, 100 + i, 9);
            p.box(i, i, 0, i, i);
        }
        return p;
    }

    private static int order(RasterPainter p) {
        int order = 0;
        for (int i = 0; i < p.count(0); i++) {
            int n = p.told(i, 1) - 10;
            due("a layer goes whole: mode", p.told(i, 0), n);
            due("a layer goes whole: opacity", p.told(i, 2), 20 + n);
            due("a layer goes whole: cover", p.told(i, 3), n + 1);
            due("a layer goes whole: ink", p.dot(i, n, n, 0), 100 + n);
            order = order * 10 + n;
        }
        return order;
    }

    private static void promise3Drop() {
        RasterPainter p = withFigures();
        due("drop one in the middle", p.drop(1), 3);
        due("drop: those above are one less", order(p), 23);
        due("drop the top", p.drop(2), 2);
        due("drop: order", order(p), 2);
        due("drop the lowest", p.drop(0), 1);
        due("drop: order then", order(p), 2);
        due("drop the last", p.drop(0), 0);
        due("drop of none", p.drop(0), Hand.BAD);
        due("layer behind drop", p.layer(1, 2, 3), 0);
        due("empty behind drop", p.told(0, 3), 0);
    }

    private static void promise4Move() {
        RasterPainter p = withFigures();
        due("move up", p.move(0, 2), 2);
        due("move up: order", order(p), 1203);
        due("move down", p.move(3, 0), 0);
        due("move down: order", order(p), 3120);
        due("move by one", p.move(1, 2), 2);
        due("move by one: order", order(p), 3210);
        p.box(0, 9, 9, 9, 9);
        p.undo(0);
        p.undo(1);
        p.box(0, 12, 9, 12, 9);
        p.undo(0);
        due("acts before move", p.count(1) * 10 + p.count(2), 11);
        due("move to where it is", p.move(2, 2), 2);
        due("move to where it is forgets acts", p.count(1), 0);
        due("move to where it is forgets undone", p.count(2), 0);
    }

    private static void promise5Dress() {
        RasterPainter p = Hand.withLayers(2);
        p.box(1, 0, 0, 0, 0);
        due("dress", p.dress(1, 3, 4, 5), 255);
        due("dress again", p.dress(1, 4, 99, 0), 5);
        due("dress mode", p.told(1, 0), 4);
        due("dress figure", p.told(1, 1), 99);
        due("dress opacity", p.told(1, 2), 0);
        due("dress leaves others", p.told(0, 2), 255);
        due("dress leaves dots", p.told(1, 3), 1);
        due("dress keeps acts", p.count(1), 1);
        due("dress is not undone", p.undo(0), 1);
        due("dress stays", p.told(1, 0), 4);
    }

    private static void promise5Paper() {
        RasterPainter p = Hand.withLayers(1);
        due("paper", p.dress(-1, 77, -5, 100), 255);
        due("paper again", p.dress(-1, Integer.MIN_VALUE, Integer.MAX_VALUE, 0), 100);
        due("paper seen", p.dot(-1, 4, 4, 0), 0);
        due("paper 255", p.dress(-1, 0, 0, 255), 0);
        due("paper 256", p.dress(-1, 0, 0, 256), Hand.BAD);
        due("paper -1", p.dress(-1, 0, 0, -1), Hand.BAD);
        due("paper refused stays", p.dot(-1, 4, 4, 0), 255);
        due("paper without layers", new RasterPainter().dress(-1, 0, 0, 9), 255);
    }

    private static void promise6Told() {
        RasterPainter p = new RasterPainter();
        p.layer(1, 2, 3);
        p.layer(4, 5, 6);
        p.box(1, 1, 1, 3, 2);
        due("told mode", p.told(1, 0), 4);
        due("told figure", p.told(1, 1), 5);
        due("told opacity", p.told(1, 2), 6);
        due("told dots", p.told(1, 3), 6);
        due("told no dots", p.told(0, 3), 0);
        p.brush(3, 0, 0, 1);
        Hand.stroke(p, 0, "move 3 3");
        due("told counts the least cover", p.told(0, 3), 1);
    }

    private static void promise7Makes() {
        RasterPainter p = Hand.withLayers(1);
        // with INK 200 on 90: 90*200/255 is 70.5, 255 - 165*55/255 is 255 - 35
        int[] modes = {200, 70, 220, 50, 250, 110};
        for (int mode = 0; mode < 6; mode++) {
            int figure = mode == 3 ? 20 : mode == 4 ? 30 : 99;
            p.dress(0, mode, figure, 0);
            due("taken mode " + mode, p.taken(0, mode, 90), modes[mode]);
        }
        p.dress(0, 3, 99, 255);
        due("BURN is 0 at least", p.taken(0, 3, 90), 0);
        p.dress(0, 4, 99, 255);
        due("GLOW is 255 at most", p.taken(0, 4, 90), 255);
        p.dress(0, 5, 0, 255);
        due("APART above", p.taken(0, 5, 255), 55);
        due("APART below", p.taken(0, 5, 0), 200);
        p.dress(0, 2, 0, 255);
        due("SCREEN of 0", p.taken(0, 2, 0), 200);
        // 255 - 254*55/255 (54.8, cut to 54)
        due("SCREEN is cut inside", p.taken(0, 2, 1), 201);
        p.dress(0, 1, 0, 255);
        due("TIMES of 255", p.taken(0, 1, 255), 200);
    }

    private static void promise8Dot() {
        RasterPainter p = Hand.withLayers(2);
        p.brush(0, 0, 77, 9);
        p.box(1, 3, 4, 3, 4);
        due("dot ink", p.dot(1, 3, 4, 0), 77);
        due("dot cover", p.dot(1, 3, 4, 1), 255);
        due("dot beside", p.dot(1, 4, 3, 1), 0);
        due("dot of the other layer", p.dot(0, 3, 4, 1), 0);
        due("dot seen", p.dot(-1, 3, 4, 0), 77);
        p.box(1, 15, 11, 15, 11);
        due("last dot", p.dot(1, 15, 11, 0), 77);
    }

    private static void promise8Seen() {
        RasterPainter p = Hand.withLayers(1);
        p.brush(1, 3, 40, 9);
        Hand.stroke(p, 0, "move 4 4");
        // cover 25: 255 + (40 - 255) * 25 / 255 is 255 - 21, cut towards 0
        due("seen is cut towards 0", p.dot(-1, 1, 4, 0), 234);
        p.dress(0, 0, 0, 100);
        // cover 204 by opacity 100 is 80: 255 - 215 * 80 / 255 is 255 - 67
        due("seen by opacity", p.dot(-1, 5, 5, 0), 188);
        p.dress(0, 0, 0, 0);
        due("opacity 0 is not seen", p.dot(-1, 4, 4, 0), 255);
        p.dress(-1, 0, 0, 10);
        p.dress(0, 0, 0, 255);
        // 10 + 30 * 25 / 255 is 10 + 2
        due("seen above paper", p.dot(-1, 1, 4, 0), 12);
    }

    private static void promise8SeenByModes() {
        RasterPainter p = Hand.withLayers(2);
        p.dress(-1, 0, 0, 90);
        p.brush(0, 0, 200, 9);
        p.box(0, 0, 0, 0, 0);
        int[] modes = {200, 70, 220, 50, 240, 110};
        for (int mode = 0; mode < 6; mode++) {
            p.dress(0, mode, 20, 255);
            due("seen by mode " + mode, p.dot(-1, 0, 0, 0), modes[mode]);
        }
        p.brush(0, 0, 128, 9);
        p.box(1, 0, 0, 0, 0);
        p.dress(0, 1, 0, 255);
        p.dress(1, 5, 0, 255);
        // 70 below, then 58 apart
        due("the lowest first", p.dot(-1, 0, 0, 0), 58);
        p.move(0, 1);
        // 90 and 128 are 38 apart, then 38*200/255
        due("order matters", p.dot(-1, 0, 0, 0), 29);
        p.layer(0, 0, 255);
        p.layer(0, 0, 255);
        due("empty layers aren't seen", p.dot(-1, 0, 0, 0), 29);
        p.brush(0, 0, 9, 9);
        p.box(3, 0, 0, 0, 0);
        due("the highest of four", p.dot(-1, 0, 0, 0), 9);
        p.drop(3);
        due("one that went isn't seen", p.dot(-1, 0, 0, 0), 29);
        p.dress(1, 1, 0, 128);
        // 38 + (29 - 38) * 128 / 255 is 38 - 4
        due("mode by opacity", p.dot(-1, 0, 0, 0), 34);
    }
}
