/** Promises 20 to 23. */
final class SeenTests {
    private static final Check CHECK = new Check("SeenTests");

    private SeenTests() {
    }

    public static void main(String[] args) {
        promise20Spread();
        promise20SpreadDown();
        promise20Pattern();
        promise21Areas();
        promise21Ties();
        promise22Places();
        promise22Seen();
        promise22SeenOnPaper();
        promise22InThought();
        promise23Chance();
        promise23Seeds();
        promise23SeenOnPaper();
        CHECK.close();
    }

    private static void due(String what, long got, long want) {
        CHECK.due(what, got, want);
    }

    private static RasterPainter withPaper(int paper) {
        RasterPainter p = Hand.withLayers(1);
        p.dress(-1, 0, 0, paper);
        return p;
    }

    private static void promise20Spread() {
        for (int y = 0; y < 12; y++) {
            due("white", withPaper(255).dither(0, y), 0xffff);
            due("black", withPaper(0).dither(0, y), 0);
        }
        // 127: 0; 127 + 55: 1; 127 - 31: 0; 127 + 42: 1; ..
        due("grey 127", withPaper(127).dither(0, 0), 0xaaaa);
        // 128: 1; 128 - 55: 0; 128 + 31: 1; ..
        due("grey 128", withPaper(128).dither(0, 0), 0x5555);
        // 60: 0; 60 + 26: 0; 60 + 37: 0; 60 + 42: 0; 60 + 44: 0; 60 + 45: 0; ..
        due("dark grey", withPaper(60).dither(0, 0), 0);
        RasterPainter p = withPaper(0);
        p.brush(0, 0, 128, 9);
        p.box(0, 0, 0, 0, 0);
        p.brush(0, 0, 184, 9);
        p.box(0, 1, 0, 1, 0);
        // 128: 1, -127 is left, 7 of it by 16 is -55.6, cut to -55: 184 - 55 is 129
        due("a negative quotient is cut towards 0", p.dither(0, 0), 0b11);
        p.brush(0, 0, 182, 9);
        p.box(0, 1, 0, 1, 0);
        due("127 is dark", p.dither(0, 0), 0b01);
        p.brush(0, 0, 183, 9);
        p.box(0, 1, 0, 1, 0);
        due("128 is light", p.dither(0, 0), 0b11);
    }

    /** What dot (x, 1) must have to be light below a dot (5, 0) of 100. */
    private static int leastBelow(int x) {
        for (int ink = 0; ink < 256; ink++) {
            RasterPainter p = withPaper(0);
            p.brush(0, 0, 100, 9);
            p.box(0, 5, 0, 5, 0);
            p.brush(0, 0, ink, 9);
            p.box(0, x, 1, x, 1);
            if ((p.dither(0, 1) >> x & 1) == 1) {
                return ink;
            }
        }
        return 256;
    }

    private static void promise20SpreadDown() {
        // 100 is left at (5, 0): 43 right, 18 below left, 31 below, 6 below right; 43 at (6, 0)
        // leaves 18, 8, 13, 2; 18 at (7, 0) leaves 7, 3, 5, 1; 7 at (8, 0) leaves 3, 1, 2, 0.
        // Row 1: (4, 1) has 18 and gives 7 to the right; (5, 1) has 31 + 8 + 7; ..
        due("below left", leastBelow(4), 128 - 18);
        due("below", leastBelow(5), 128 - 31 - 8 - 7);
        due("left of that nothing came", leastBelow(3), 128);
        RasterPainter right = withPaper(0);
        right.brush(0, 0, 128, 9);
        right.box(0, 5, 0, 5, 0);
        right.brush(0, 0, 55, 9);
        right.box(0, 6, 0, 6, 0);
        // -127 is left at (5, 0): 55 to the right, so nothing is left at (6, 0); -23 below left,
        // -39 below, -7 below right; (4, 1) leaves -23, (5, 1) -39 - 10, (6, 1) then -7 - 21
        right.brush(0, 0, 155, 9);
        right.box(0, 6, 1, 6, 1);
        due("below right", right.dither(0, 1) >> 6 & 1, 0);
        right.brush(0, 0, 156, 9);
        right.box(0, 6, 1, 6, 1);
        due("below right, light", right.dither(0, 1) >> 6 & 1, 1);
        RasterPainter dark = withPaper(0);
        dark.brush(0, 0, 112, 9);
        dark.box(0, 5, 0, 5, 0);
        dark.brush(0, 0, 206, 9);
        dark.box(0, 6, 0, 6, 0);
        // 112 is left at (5, 0): 49 to the right, so nothing is left at (6, 0); 21 below left,
        // 35 below, 7 below right; (4, 1) leaves 9, (5, 1) 19, (6, 1) has 7 + 19 then
        dark.brush(0, 0, 101, 9);
        dark.box(0, 6, 1, 6, 1);
        due("below right of a dark one", dark.dither(0, 1) >> 6 & 1, 0);
        dark.brush(0, 0, 102, 9);
        dark.box(0, 6, 1, 6, 1);
        due("below right of a dark one, light", dark.dither(0, 1) >> 6 & 1, 1);
        RasterPainter above = withPaper(0);
        above.brush(0, 0, 255, 9);
        above.box(0, 0, 0, 15, 10);
        due("white rows above", above.dither(0, 10), 0xffff);
        due("a black row below", above.dither(0, 11), 0);
        RasterPainter p = withPaper(0);
        p.brush(0, 0, 100, 9);
        p.box(0, 15, 0, 15, 0);
        p.brush(0, 0, 127, 9);
        p.box(0, 0, 1, 0, 1);
        due("none comes round the side", p.dither(0, 1) & 1, 0);
        p.brush(0, 0, 100, 9);
        p.box(0, 0, 0, 0, 0);
        p.brush(0, 0, 127, 9);
        p.box(0, 15, 0, 15, 0);
        due("none goes round the other side", p.dither(0, 0) >> 15, 0);
    }

    private static void promise20Pattern() {
        int[][] table = {{0, 8, 2, 10}, {12, 4, 14, 6}, {3, 11, 1, 9}, {15, 7, 13, 5}};
        int[] papers = {0, 7, 8, 23, 24, 100, 119, 120, 135, 136, 200, 231, 232, 247, 248, 255};
        for (int paper : papers) {
            RasterPainter p = withPaper(paper);
            for (int y = 0; y < 12; y++) {
                int bits = 0;
                for (int x = 0; x < 16; x++) {
                    if (paper > 16 * table[y % 4][x % 4] + 7) {
                        bits |= 1 << x;
                    }
                }
                due("pattern of " + paper + ", row " + y, p.dither(1, y), bits);
            }
        }
        due("paper 8, row 0", withPaper(8).dither(1, 0), 0x1111);
        due("paper 24, row 2", withPaper(24).dither(1, 2), 0x4444);
        RasterPainter p = withPaper(255);
        p.brush(0, 0, 0, 9);
        p.box(0, 3, 2, 3, 2);
        due("of what is seen", p.dither(1, 2), 0xfff7);
    }

    private static void areas(String what, RasterPainter p, int count, int size, int seen) {
        due(what + ": areas", p.areas(0), count);
        due(what + ": dots of the greatest", p.areas(1), size);
        due(what + ": seen of the greatest", p.areas(2), seen);
    }

    private static void promise21Areas() {
        RasterPainter p = withPaper(30);
        areas("paper", p, 1, 192, 30);
        areas("without layers", new RasterPainter(), 1, 192, 255);
        p.brush(0, 0, 200, 9);
        p.box(0, 5, 0, 5, 11);
        areas("a wall", p, 3, 120, 30);
        p.box(0, 0, 0, 12, 11);
        areas("more of it", p, 2, 156, 200);
        p.brush(0, 0, 30, 9);
        p.box(0, 0, 0, 15, 11);
        areas("by what is seen, not by layers", p, 1, 192, 30);
        p.brush(0, 0, 31, 9);
        for (int i = 0; i < 12; i++) {
            p.box(0, i, i, i, i);
        }
        // the dots of the line are not beside one another
        areas("corners aren't beside", p, 14, 114, 30);
        RasterPainter q = Hand.withLayers(1);
        q.brush(0, 0, 1, 9);
        for (int y = 0; y < 12; y++) {
            for (int x = y % 2; x < 16; x += 2) {
                q.box(0, x, y, x, y);
            }
        }
        areas("chequered", q, 192, 1, 1);
    }

    private static void promise21Ties() {
        RasterPainter p = withPaper(9);
        p.brush(0, 0, 8, 9);
        p.box(0, 8, 0, 15, 11);
        areas("halves", p, 2, 96, 9);
        p.box(0, 0, 0, 7, 11);
        p.brush(0, 0, 7, 9);
        p.box(0, 0, 6, 15, 11);
        areas("upper and lower half", p, 2, 96, 8);
        p.brush(0, 0, 6, 9);
        p.box(0, 0, 0, 0, 0);
        areas("the lower is greater then", p, 3, 96, 7);
        p.box(0, 15, 11, 15, 11);
        areas("like again", p, 4, 95, 8);
    }

    private static int drawnAfter(int z) {
        return (int) ((z * 1103515245L + 12345L) & 0xffffffffL);
    }

    private static int upper(int z) {
        return (int) ((z & 0xffffffffL) / 512L);
    }

    /** Which dots n stamps of a brush of radius 0 hit, as a mask row by row. */
    private static boolean[] hit(int seed, int n) {
        boolean[] hit = new boolean[192];
        int z = seed;
        for (int k = 0; k < n; k++) {
            z = drawnAfter(z);
            int x = upper(z) % 16;
            z = drawnAfter(z);
            int y = upper(z) % 12;
            hit[16 * y + x] = true;
        }
        return hit;
    }

    private static final int[] SEEDS = {0, 1, -1, 7, 99, -12345, 1 << 30, Integer.MIN_VALUE, Integer.MAX_VALUE};

    private static void promise22Places() {
        // of SEED 0: 12345 >>> 9 is 24, x 8; then -740551042 (>>> 9 is 6942219), y 3
        RasterPainter first = Hand.withLayers(1);
        first.brush(0, 0, 0, 9);
        first.mask(8, 3, 8, 3, 0);
        due("the first place of SEED 0", first.sprayed(0, 0, 1), 1);
        first.grow(2);
        due("no other place", first.sprayed(0, 0, 1), 0);
        RasterPainter p = Hand.withLayers(1);
        p.brush(0, 0, 0, 9);
        for (int seed : SEEDS) {
            for (int n = 0; n <= 30; n += 3) {
                boolean[] hit = hit(seed, n);
                int want = 0;
                for (boolean h : hit) {
                    want += h ? 1 : 0;
                }
                due("sprayed by " + seed + ", " + n, p.sprayed(0, seed, n), want);
            }
        }
        for (int seed : SEEDS) {
            boolean[] hit = hit(seed, 4);
            for (int y = 0; y < 12; y++) {
                p.mask(0, y, 15, y, 0);
                int want = 0;
                for (int x = 0; x < 16; x++) {
                    want += hit[16 * y + x] ? 1 : 0;
                }
                due("sprayed in row " + y + " by " + seed, p.sprayed(0, seed, 4), want);
            }
        }
    }

    private static void promise22Seen() {
        RasterPainter p = Hand.withLayers(2);
        p.brush(0, 0, 255, 9);
        due("white on white", p.sprayed(0, 7, 10), 0);
        p.brush(0, 0, 0, 9);
        p.dress(0, 0, 0, 0);
        due("in a layer that isn't seen", p.sprayed(0, 7, 10), 0);
        p.dress(0, 0, 0, 255);
        p.brush(0, 0, 0, 9);
        p.box(1, 0, 0, 15, 11);
        due("below a black layer", p.sprayed(0, 7, 10), 0);
        p.brush(0, 0, -1, 9);
        due("wiping nothing", p.sprayed(0, 7, 10), 0);
        due("wiping black from white", p.sprayed(1, 7, 1), 1);
        p.brush(2, 4, -1, 9);
        int wide = p.sprayed(1, 7, 1);
        CHECK.holds("a stamp of radius 4", wide >= 25 && wide <= 81);
        p.brush(3, 4, -1, 0);
        due("of flow 0", p.sprayed(1, 7, 30), 0);
    }

    /** SEEN is otherwise where it is so on this PAPER, by this MODE and OPACITY, below these layers. */
    private static void promise22SeenOnPaper() {
        RasterPainter p = withPaper(100);
        p.brush(0, 0, 100, 9);
        due("ink as the paper", p.sprayed(0, 7, 10), 0);
        p.brush(0, 0, 101, 9);
        due("ink one above", p.sprayed(0, 7, 1), 1);
        p.dress(0, 0, 0, 254);
        due("one above, cut to nothing", p.sprayed(0, 7, 1), 0);
        p.dress(0, 1, 0, 255);
        p.brush(0, 0, 255, 9);
        due("TIMES by 255", p.sprayed(0, 7, 10), 0);
        p.dress(0, 3, 1, 255);
        due("BURN by its FIGURE", p.sprayed(0, 7, 1), 1);
        p.dress(0, 5, 0, 255);
        p.brush(0, 0, 0, 9);
        due("APART by 0", p.sprayed(0, 7, 10), 0);
        p.brush(0, 0, 200, 9);
        due("APART by twice the paper", p.sprayed(0, 7, 10), 0);
        p.layer(1, 0, 255);
        p.brush(0, 0, 2, 9);
        p.box(1, 0, 0, 15, 11);
        p.brush(0, 0, 100, 9);
        // 100 TIMES 2 by 255 and 0 TIMES 2 by 255 are 0
        due("below a dark layer", p.sprayed(0, 7, 1), 0);
        p.dress(1, 2, 0, 255);
        due("below a SCREEN", p.sprayed(0, 7, 1), 1);
        p.dress(-1, 0, 0, 0);
        due("no more than that on other PAPER", p.sprayed(0, 7, 1), 1);
    }

    private static void promise22InThought() {
        RasterPainter p = Hand.withLayers(2);
        p.brush(1, 3, 40, 9);
        Hand.stroke(p, 0, "move 4 4 line 12 8");
        p.box(1, 3, 3, 4, 4);
        p.undo(0);
        long before = Hand.printOf(p);
        p.sprayed(0, 5, 30);
        p.sprayed(1, 5, 30);
        p.chance(1, 5, 10, 3, 3, 0);
        CHECK.holds("nothing is changed", before == Hand.printOf(p));
        due("what was undone can be done again", p.undo(1), 4);
    }

    private static int common(int a, int b) {
        return b == 0 ? a : common(b, a % b);
    }

    private static void promise23Chance() {
        RasterPainter p = Hand.withLayers(1);
        p.brush(0, 0, 0, 9);
        for (int seed : SEEDS) {
            for (int m = 1; m <= 10; m++) {
                int above = 0;
                boolean[] hit = hit(seed, 4);
                int x = 0;
                while (!hit[x]) {
                    x++;
                }
                for (int i = 0; i < m; i++) {
                    above += hit(seed + i, 4)[x] ? 1 : 0;
                }
                int d = common(above, m);
                due("above", p.chance(0, seed, m, x % 16, x / 16, 0), above / d);
                due("below", p.chance(0, seed, m, x % 16, x / 16, 1), m / d);
            }
        }
    }

    private static void promise23Seeds() {
        RasterPainter p = Hand.withLayers(1);
        p.brush(0, 0, 255, 9);
        due("none: 0", p.chance(0, 3, 6, 5, 5, 0), 0);
        due("none: by 1", p.chance(0, 3, 6, 5, 5, 1), 1);
        p.brush(2, 4, 0, 9);
        int above = 0;
        for (int i = 0; i < 10; i++) {
            above += p.chance(0, i, 1, 8, 6, 0);
            due("of one seed", p.chance(0, i, 1, 8, 6, 1), 1);
        }
        int d = common(above, 10);
        CHECK.holds("some, not all", above > 0);
        due("together: above", p.chance(0, 0, 10, 8, 6, 0), above / d);
        due("together: below", p.chance(0, 0, 10, 8, 6, 1), 10 / d);
        // a dot hit by every seed
        p.mask(8, 6, 8, 6, 0);
        due("through the mask", p.chance(0, 0, 10, 9, 6, 0), 0);
        p.dress(0, 0, 0, 0);
        due("not seen", p.chance(0, 0, 10, 8, 6, 0), 0);
    }

    private static void promise23SeenOnPaper() {
        RasterPainter p = withPaper(100);
        p.brush(2, 4, 100, 9);
        due("ink as the paper", p.chance(0, 0, 10, 8, 6, 0), 0);
        p.brush(2, 4, 101, 9);
        int above = 0;
        for (int i = 0; i < 10; i++) {
            above += p.chance(0, i, 1, 8, 6, 0);
        }
        CHECK.holds("some by ink one above", above > 0);
        p.mask(9, 6, 9, 6, 0);
        due("none where it isn't free", p.chance(0, 0, 10, 8, 6, 0), 0);
    }
}
