/** Promises 16 to 19. */
final class MaskTests {
    private static final Check CHECK = new Check("MaskTests");

    private MaskTests() {
    }

    public static void main(String[] args) {
        promise16Mask();
        promise17Wand();
        promise18Grow();
        promise18Shrink();
        promise18Turn();
        promise19Masked();
        CHECK.close();
    }

    private static void due(String what, long got, long want) {
        CHECK.due(what, got, want);
    }

    private static void rows(String what, RasterPainter p, int... want) {
        int size = 0;
        for (int y = 0; y < 12; y++) {
            int row = y < want.length ? want[y] : 0;
            due(what + ", row " + y, p.masked(y), row);
            size += Integer.bitCount(row);
        }
        due(what + ", count", p.count(4), size);
    }

    private static void promise16Mask() {
        RasterPainter p = new RasterPainter();
        due("are the mask", p.mask(1, 0, 2, 1, 0), 4);
        rows("box", p, 0b110, 0b110);
        due("come to it", p.mask(3, 2, 2, 1, 1), 7);
        rows("come", p, 0b110, 0b1110, 0b1100);
        due("go out of it", p.mask(2, 0, 2, 11, 2), 4);
        rows("go", p, 0b010, 0b1010, 0b1000);
        due("others go", p.mask(15, 1, 0, 1, 3), 2);
        rows("others", p, 0, 0b1010);
        due("come again", p.mask(1, 1, 1, 1, 1), 2);
        due("go that aren't in it", p.mask(9, 9, 9, 9, 2), 2);
        due("are the mask, what was goes", p.mask(15, 11, 15, 11, 0), 1);
        rows("last dot", p, 0, 0, 0, 0, 0, 0, 0, 0, 0, 0, 0, 0x8000);
        due("all", p.mask(15, 0, 0, 11, 0), 192);
        due("others go, none left", p.mask(0, 0, 15, 11, 2), 0);
        due("others go out of none", p.mask(0, 0, 15, 11, 3), 0);
    }

    private static RasterPainter withWall() {
        RasterPainter p = Hand.withLayers(1);
        p.brush(0, 0, 90, 9);
        p.box(0, 3, 0, 3, 10);
        return p;
    }

    private static void promise17Wand() {
        RasterPainter p = withWall();
        due("round the wall", p.wand(0, 0, 0, 0, 0), 181);
        due("the wall", p.wand(0, 3, 3, 0, 0), 11);
        rows("wall", p, 8, 8, 8, 8, 8, 8, 8, 8, 8, 8, 8);
        p.mask(0, 0, 2, 0, 0);
        due("a region does not end at the mask", p.wand(0, 9, 9, 0, 3), 3);
        due("come to it", p.wand(0, 3, 0, 0, 1), 14);
        due("go out of it", p.wand(0, 0, 0, 254, 2), 11);
        due("t 255", p.wand(0, 0, 0, 255, 0), 192);
        due("cover counts", p.wand(0, 3, 0, 254, 0), 11);
        RasterPainter q = Hand.withColumns();
        due("near the dot told", q.wand(0, 5, 5, 19, 0), 36);
        rows("columns", q, 0x70, 0x70, 0x70, 0x70, 0x70, 0x70, 0x70, 0x70, 0x70, 0x70, 0x70, 0x70);
        due("no act", q.count(1), 10);
    }

    private static void promise18Grow() {
        RasterPainter p = new RasterPainter();
        due("nothing grows", p.grow(0), 0);
        p.mask(3, 2, 3, 2, 0);
        due("a dot grows", p.grow(0), 5);
        rows("grown", p, 0, 0b01000, 0b11100, 0b01000);
        due("and grows", p.grow(0), 13);
        rows("grown twice", p, 0b001000, 0b011100, 0b111110, 0b011100, 0b001000);
        p.mask(15, 11, 15, 11, 0);
        due("a corner grows", p.grow(0), 3);
        due("the last row", p.masked(11), 0xc000);
        due("not round the side", p.masked(0), 0);
        p.mask(0, 0, 15, 11, 0);
        due("all stays", p.grow(0), 192);
    }

    private static void promise18Shrink() {
        RasterPainter p = new RasterPainter();
        due("nothing shrinks", p.grow(1), 0);
        p.mask(2, 1, 5, 4, 0);
        due("a box shrinks", p.grow(1), 4);
        rows("shrunk", p, 0, 0, 0b11000, 0b11000);
        due("and goes", p.grow(1), 0);
        p.mask(0, 0, 3, 3, 0);
        due("outside doesn't count", p.grow(1), 9);
        rows("corner", p, 0b111, 0b111, 0b111);
        p.mask(0, 0, 15, 11, 0);
        due("all stays", p.grow(1), 192);
        p.mask(5, 5, 5, 5, 2);
        due("a hole grows", p.grow(1), 187);
        due("row of the hole", p.masked(5), 0xff8f);
        due("row above", p.masked(4), 0xffdf);
    }

    private static void promise18Turn() {
        RasterPainter p = new RasterPainter();
        due("none turned", p.grow(2), 192);
        due("all turned", p.grow(2), 0);
        p.mask(0, 0, 7, 0, 0);
        due("turned", p.grow(2), 184);
        due("row", p.masked(0), 0xff00);
        due("other row", p.masked(11), 0xffff);
    }

    private static void promise19Masked() {
        RasterPainter p = new RasterPainter();
        p.mask(15, 0, 15, 11, 0);
        p.mask(0, 11, 0, 11, 1);
        due("row 0", p.masked(0), 0x8000);
        due("row 11", p.masked(11), 0x8001);
    }
}
