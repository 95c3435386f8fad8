/** Section 3 of the document: a test for each sentence that names a bound of what is seen, sprayed, told, kept, of sheets. */
final class SeenEdgeTests {
    private static final Check CHECK = new Check("SeenEdgeTests");
    private static final int LEAST = Integer.MIN_VALUE, GREATEST = Integer.MAX_VALUE;

    private SeenEdgeTests() {
    }

    public static void main(String[] args) {
        lightFrom128On();
        whatIsLeftIsCutTowards0();
        whatIsLeftBelowIsCutTowards0();
        whatIsLeftHasNoBounds();
        noneGoesOutside();
        patternAbove16TAnd7();
        areasOfOneAndOfAll();
        areasEndAtThePicture();
        ofLikeAreasTheFirst();
        sprayedNoneAndThirty();
        drawsWrapAround();
        seedsWrapAround();
        chanceByFourStamps();
        chanceInLowestTerms();
        toldUpTo16();
        toldNone();
        papersFrom0To256();
        modesFromNoneToAll();
        filmIsOf16Shorts();
        imageOfNothing();
        imageKeepsAllButSheetsAndTape();
        sheetsAreMissingAtFirst();
        sheetsOf0AndOf40();
        shortsWrapAround();
        intsDoNot();
        copyOfNoneAndOfAll();
        copyAsTheyWere();
        CHECK.close();
    }

    private static void due(String what, long got, long want) {
        CHECK.due(what, got, want);
    }

    /** One layer on PAPER 0, in which the first dots of row 0 have these inks. */
    private static RasterPainter rowOf(int... inks) {
        RasterPainter p = Hand.withLayers(1);
        p.dress(-1, 0, 0, 0);
        paintRow(p, 0, inks);
        return p;
    }

    private static void paintRow(RasterPainter p, int y, int... inks) {
        for (int x = 0; x < inks.length; x++) {
            p.brush(0, 0, inks[x], 9);
            p.box(0, x, y, x, y);
        }
    }

    /** "1, if that is 128 or above, else 0" */
    private static void lightFrom128On() {
        due("127", rowOf(127).dither(0, 0), 0);
        due("128", rowOf(128).dither(0, 0), 1);
        due("0", rowOf(0).dither(0, 0), 0);
        due("255", rowOf(255).dither(0, 0), 1);
    }

    /** "7 of it by 16 goes to the right" */
    private static void whatIsLeftIsCutTowards0() {
        // 127 leaves 55 (55.6), 128 leaves -55 (-55.6), 2 and 253 leave nothing
        due("55 and 72", rowOf(127, 72).dither(0, 0), 0);
        due("55 and 73", rowOf(127, 73).dither(0, 0), 2);
        due("-55 and 182", rowOf(128, 182).dither(0, 0), 1);
        due("-55 and 183", rowOf(128, 183).dither(0, 0), 3);
        due("0 and 127", rowOf(2, 127).dither(0, 0), 0);
        due("1 and 127", rowOf(3, 127).dither(0, 0), 2);
        due("0 and 128", rowOf(253, 128).dither(0, 0), 3);
        due("-1 and 128", rowOf(252, 128).dither(0, 0), 1);
    }

    /** Whether the last of these inks in row 1, from x 4 on, is light below the inks of (5, 0) and (6, 0). */
    private static int below(int ink, int beside, int... from4) {
        RasterPainter p = rowOf(0, 0, 0, 0, 0, ink, beside);
        for (int i = 0; i < from4.length; i++) {
            p.brush(0, 0, from4[i], 9);
            p.box(0, 4 + i, 1, 4 + i, 1);
        }
        return p.dither(0, 1) >> 3 + from4.length & 1;
    }

    /** "3 by 16 below left, 5 by 16 below, 1 by 16 below right" */
    private static void whatIsLeftBelowIsCutTowards0() {
        // 127 leaves 23 (23.8), 39 (39.7), 7 (7.9); the dots between are 255 then and leave nothing
        due("23 and 104", below(127, 200, 104), 0);
        due("23 and 105", below(127, 200, 105), 1);
        due("39 and 88", below(127, 200, 232, 88), 0);
        due("39 and 89", below(127, 200, 232, 89), 1);
        due("7 and 120", below(127, 200, 232, 216, 120), 0);
        due("7 and 121", below(127, 200, 232, 216, 121), 1);
        // 128 leaves as much below 0; the dots between are 0 then
        due("-23 and 150", below(128, 55, 150), 0);
        due("-23 and 151", below(128, 55, 151), 1);
        due("-39 and 166", below(128, 55, 23, 166), 0);
        due("-39 and 167", below(128, 55, 23, 167), 1);
        due("-7 and 134", below(128, 55, 23, 39, 134), 0);
        due("-7 and 135", below(128, 55, 23, 39, 135), 1);
    }

    /** Below 0 and above 255 it goes on as it is. */
    private static void whatIsLeftHasNoBounds() {
        // -55 at the second, which leaves -24
        due("-24 and 151", rowOf(128, 0, 151).dither(0, 0), 1);
        due("-24 and 152", rowOf(128, 0, 152).dither(0, 0), 5);
        // 310 at the second, which leaves 24
        due("24 and 103", rowOf(127, 255, 103).dither(0, 0), 2);
        due("24 and 104", rowOf(127, 255, 104).dither(0, 0), 6);
    }

    /** "(none goes outside)" */
    private static void noneGoesOutside() {
        for (int y = 1; y <= 2; y++) {
            RasterPainter p = rowOf();
            p.brush(0, 0, 112, 9);
            p.box(0, 15, 0, 15, 0);
            paintRow(p, y, 127);
            due("the first dot " + y + " below", p.dither(0, y) & 1, 0);
        }
        RasterPainter q = rowOf(112);
        q.brush(0, 0, 127, 9);
        q.box(0, 15, 0, 15, 0);
        due("the last dot beside", q.dither(0, 0) >> 15, 0);
        RasterPainter last = rowOf();
        last.brush(0, 0, 127, 9);
        last.box(0, 0, 11, 15, 11);
        due("the last row", last.dither(0, 11), 0xaaaa);
        due("asked again", last.dither(0, 11), 0xaaaa);
        due("the first row", last.dither(0, 0), 0);
    }

    /** "1, if SEEN is above 16 T and 7" */
    private static void patternAbove16TAnd7() {
        int[][] table = {{0, 8, 2, 10}, {12, 4, 14, 6}, {3, 11, 1, 9}, {15, 7, 13, 5}};
        for (int y = 0; y < 4; y++) {
            for (int x = 0; x < 4; x++) {
                int bound = 16 * table[y][x] + 7;
                RasterPainter p = new RasterPainter();
                for (int above = 0; above < 2; above++) {
                    p.dress(-1, 0, 0, bound + above);
                    for (int row = y; row < 12; row += 4) {
                        due("SEEN " + (bound + above) + " at " + x + ", " + row,
                                p.dither(1, row) >> x & 0x1111, above == 0 ? 0 : 0x1111);
                    }
                }
            }
        }
        RasterPainter p = new RasterPainter();
        due("all of 255", p.dither(1, 11), 0xffff);
        p.dress(-1, 0, 0, 0);
        due("none of 0", p.dither(1, 0), 0);
    }

    private static void areas(String what, RasterPainter p, int count, int size, int seen) {
        due(what + ": how many", p.areas(0), count);
        due(what + ": dots of the greatest", p.areas(1), size);
        due(what + ": SEEN of it", p.areas(2), seen);
    }

    private static void areasOfOneAndOfAll() {
        RasterPainter p = new RasterPainter();
        areas("all", p, 1, 192, 255);
        p.dress(-1, 0, 0, 0);
        areas("all of 0", p, 1, 192, 0);
        RasterPainter q = Hand.withLayers(1);
        for (int i = 0; i < 96; i++) {
            int y = i / 8;
            int x = 2 * (i % 8) + y % 2;
            q.box(0, x, y, x, y);
        }
        areas("each alone", q, 192, 1, 0);
        q.box(0, 0, 1, 0, 1);
        areas("but for one that joins four", q, 189, 4, 0);
    }

    private static void areasEndAtThePicture() {
        RasterPainter p = Hand.withLayers(1);
        p.box(0, 15, 0, 15, 0);
        p.box(0, 0, 1, 0, 1);
        areas("a row's last dot and the next row's first", p, 3, 190, 255);
        p.box(0, 7, 0, 7, 0);
        p.box(0, 7, 11, 7, 11);
        areas("the first row and the last", p, 5, 188, 255);
    }

    /** "of like ones the one whose first DOT, row by row, is first" */
    private static void ofLikeAreasTheFirst() {
        RasterPainter p = Hand.withLayers(1);
        p.box(0, 8, 0, 15, 11);
        areas("left and right", p, 2, 96, 255);
        p.box(0, 0, 0, 15, 11);
        p.brush(0, 0, 9, 9);
        p.box(0, 0, 0, 15, 5);
        areas("above and below", p, 2, 96, 9);
        p.box(0, 0, 6, 14, 6);
        p.box(0, 0, 11, 14, 11);
        p.box(0, 0, 7, 0, 10);
        p.brush(0, 0, 0, 9);
        p.box(0, 0, 0, 15, 11);
        p.brush(0, 0, 9, 9);
        p.box(0, 0, 1, 15, 6);
        // 16 dots above, 96 dots, 80 dots
        areas("the greatest isn't the first", p, 3, 96, 9);
    }

    /** "n times (0 .. 30)" */
    private static void sprayedNoneAndThirty() {
        RasterPainter p = Hand.withLayers(1);
        p.brush(2, 4, 0, 9);
        due("none", p.sprayed(0, 5, 0), 0);
        int one = p.sprayed(0, 5, 1);
        int many = p.sprayed(0, 5, 29);
        int most = p.sprayed(0, 5, 30);
        CHECK.holds("one stamp", one >= 25 && one <= 81);
        CHECK.holds("each one more", one < many && many <= most && most <= 192);
        due("one more than 30", p.sprayed(0, 5, 31), Hand.BAD);
        due("in thought", p.told(0, 3), 0);
        due("no act", p.count(1), 0);
    }

    /** Where the first stamp of a SEED goes, found by a mask of one dot. */
    private static void firstStamp(int seed, int x, int y) {
        RasterPainter p = Hand.withLayers(1);
        p.brush(0, 0, 0, 9);
        p.mask(x, y, x, y, 0);
        due("the first stamp of " + seed, p.sprayed(0, seed, 1), 1);
        due("the same by chance", p.chance(0, seed, 1, x, y, 0) + p.sprayed(0, seed, 0), 1);
        p.grow(2);
        due("nothing else of " + seed, p.sprayed(0, seed, 1), 0);
    }

    /** "z being z * 1103515245 + 12345 (an int ..)", "(z >>> 9) % 16", "(z >>> 9) % 12" */
    private static void drawsWrapAround() {
        int[] seeds = {0, 1, 2, -1, -2, 12345, GREATEST, LEAST, LEAST + 1, GREATEST - 1, 1 << 16, -(1 << 16)};
        for (int seed : seeds) {
            long first = (seed * 1103515245L + 12345L) & 0xffffffffL;
            long second = (first * 1103515245L + 12345L) & 0xffffffffL;
            firstStamp(seed, (int) (first / 512 % 16), (int) (second / 512 % 12));
        }
        firstStamp(0, 8, 3);
    }

    /** "SEED and each 1 more (an int)": behind the greatest int comes the least */
    private static void seedsWrapAround() {
        RasterPainter p = Hand.withLayers(1);
        p.brush(2, 4, 0, 9);
        for (int x = 0; x < 16; x += 3) {
            for (int y = 0; y < 12; y += 4) {
                int above = p.chance(0, GREATEST, 1, x, y, 0) + p.chance(0, LEAST, 1, x, y, 0);
                due("two seeds", p.chance(0, GREATEST, 2, x, y, 0), above == 0 ? 0 : 1);
                due("of two", p.chance(0, GREATEST, 2, x, y, 1), above == 1 ? 2 : 1);
                int three = above + p.chance(0, GREATEST - 1, 1, x, y, 0);
                due("three seeds", p.chance(0, GREATEST - 1, 3, x, y, 0), three == 3 ? 1 : three);
                due("of three", p.chance(0, GREATEST - 1, 3, x, y, 1), three % 3 == 0 ? 1 : 3);
            }
        }
    }

    /** "IN m seeds ..., n 4": the fourth stamp counts, the fifth doesn't */
    private static void chanceByFourStamps() {
        RasterPainter p = Hand.withLayers(1);
        p.brush(0, 0, 0, 9);
        for (int seed = 0; seed < 10; seed++) {
            int z = seed;
            for (int k = 1; k <= 5; k++) {
                z = z * 1103515245 + 12345;
                int x = (z >>> 9) % 16;
                z = z * 1103515245 + 12345;
                int y = (z >>> 9) % 12;
                boolean isNew = p.sprayed(0, seed, k) > p.sprayed(0, seed, k - 1);
                due("stamp " + k + " of " + seed, p.chance(0, seed, 1, x, y, 0), k <= 4 || !isNew ? 1 : 0);
            }
        }
    }

    /** "part 0 above, 1 below the line, in lowest terms": of none, of all, of some of 10 */
    private static void chanceInLowestTerms() {
        RasterPainter p = Hand.withLayers(1);
        p.brush(2, 4, 0, 9);
        p.dress(0, 0, 0, 0);
        for (int m = 1; m <= 10; m++) {
            due("none of " + m, p.chance(0, 0, m, 8, 6, 0), 0);
            due("none of " + m + ", below", p.chance(0, 0, m, 8, 6, 1), 1);
        }
        p.dress(0, 0, 0, 255);
        for (int x = 0; x < 16; x++) {
            int above = 0;
            for (int i = 0; i < 10; i++) {
                above += p.chance(0, 40 + i, 1, x, 6, 0);
                due("one seed, below", p.chance(0, 40 + i, 1, x, 6, 1), 1);
            }
            int common = above == 0 || above == 10 ? 10 : above == 5 ? 5 : above % 2 == 0 ? 2 : 1;
            due("of ten", p.chance(0, 40, 10, x, 6, 0), above / common);
            due("of ten, below", p.chance(0, 40, 10, x, 6, 1), 10 / common);
        }
    }

    private static void tell(RasterPainter p, int sheet, int sort, int size, int v) {
        p.sheet(sheet, sort, size);
        for (int i = 0; i < size; i++) {
            p.put(sheet, i, v);
        }
    }

    /** "a SHEET tells SEEN (numbers; 16 at most)" */
    private static void toldUpTo16() {
        RasterPainter p = Hand.withLayers(1);
        for (int sort = 0; sort <= 1; sort++) {
            tell(p, 0, sort, 16, 255);
            due("16", p.tells(0, 11, 0), -1);
            p.put(0, 15, 254);
            due("the last is otherwise", p.tells(0, 11, 0), 15);
            p.put(0, 0, 256);
            due("the first is otherwise", p.tells(0, 11, 0), 0);
            tell(p, 0, sort, 17, 255);
            for (int what = 0; what <= 2; what++) {
                due("17, what " + what, p.tells(0, 11, what), Hand.BAD);
            }
        }
    }

    /** A sheet that tells nothing is right whatever is seen. */
    private static void toldNone() {
        RasterPainter p = Hand.withLayers(4);
        p.sheet(0, 0, 0);
        p.sheet(1, 1, 0);
        for (int sheet = 0; sheet < 2; sheet++) {
            due("NONE", p.tells(sheet, 0, 0), -1);
            due("all PAPERS", p.tells(sheet, 11, 1), 256);
            for (int what = 2; what <= 5; what++) {
                due("all MODES", p.tells(sheet, 0, what), 63);
            }
            due("no more layers", p.tells(sheet, 0, 6), Hand.BAD);
        }
    }

    /** "how many of 0 .. 255, in PAPER's place" */
    private static void papersFrom0To256() {
        RasterPainter p = Hand.withLayers(1);
        int[][] told = {{0, 1}, {255, 1}, {1, 1}, {-1, 0}, {256, 0}};
        for (int[] t : told) {
            tell(p, 0, 1, 16, t[0]);
            due("told " + t[0], p.tells(0, 5, 1), t[1]);
        }
        p.brush(0, 0, 200, 9);
        p.box(0, 0, 0, 15, 11);
        tell(p, 0, 0, 16, 200);
        due("any", p.tells(0, 5, 1), 256);
        p.dress(0, 1, 0, 255);
        tell(p, 0, 0, 16, 0);
        due("0 and 1 by 200", p.tells(0, 5, 1), 2);
        tell(p, 0, 0, 16, 200);
        due("255 alone", p.tells(0, 5, 1), 1);
        tell(p, 0, 0, 16, 201);
        due("none", p.tells(0, 5, 1), 0);
        due("PAPER as it was", p.dress(-1, 0, 0, 0), 255);
    }

    /** "MODES (bits) in a LAYER's place (FIGURE, OPACITY as they are)" */
    private static void modesFromNoneToAll() {
        RasterPainter p = Hand.withLayers(4);
        p.brush(0, 0, 255, 9);
        p.box(3, 0, 0, 15, 11);
        tell(p, 0, 1, 16, 255);
        due("a white layer on white", p.tells(0, 0, 5), 0b011111);
        p.dress(3, 2, 0, 255);
        tell(p, 0, 1, 16, 0);
        due("black is APART", p.tells(0, 0, 5), 0b100000);
        tell(p, 0, 1, 16, 1);
        due("none", p.tells(0, 0, 5), 0);
        p.dress(3, 2, 0, 0);
        tell(p, 0, 1, 16, 255);
        due("all by OPACITY 0", p.tells(0, 0, 5), 63);
        due("all of an empty one", p.tells(0, 0, 2), 63);
        p.dress(3, 2, 99, 255);
        tell(p, 0, 1, 16, 156);
        due("BURN by FIGURE 99", p.tells(0, 0, 5), 0b001000);
        p.dress(3, 2, 0, 255);
        tell(p, 0, 1, 16, 255);
        due("by FIGURE 0 BURN, too", p.tells(0, 0, 5), 0b011111);
        due("MODE as it was", p.told(3, 0), 2);
    }

    /** "A SHEET truly becomes SEEN of row y (16 shorts)" */
    private static void filmIsOf16Shorts() {
        for (int sort = -1; sort <= 1; sort++) {
            RasterPainter p = rowOf(0, 255, 128);
            p.sheet(0, sort, 40);
            due("film of sort " + sort, p.film(0, 0), 16);
            due("it tells the row", p.tells(0, 0, 0), -1);
            due("the last", p.put(0, 15, 65536), 1);
            due("they are shorts", p.tells(0, 0, 0), -1);
            due("no more", p.put(0, 16, 0), Hand.OUTSIDE);
            due("the last row", p.film(0, 11), 16);
            due("tells it", p.tells(0, 11, 0), -1);
        }
    }

    private static void imageOfNothing() {
        RasterPainter p = new RasterPainter();
        due("no image", p.back(), Hand.STATE);
        due("of nothing", p.image(), 0);
        for (int i = 0; i < 4; i++) {
            p.layer(0, 0, 255);
        }
        p.box(3, 0, 0, 15, 11);
        p.dress(-1, 0, 0, 9);
        p.grow(2);
        due("back to nothing", p.back(), 0);
        int[] counts = {0, 0, 0, 0, 0, 9, 0, 0};
        for (int what = 0; what < 8; what++) {
            due("count " + what, p.count(what), counts[what]);
        }
        due("SEEN", p.dot(-1, 0, 0, 0), 255);
        due("a layer comes empty", p.layer(0, 0, 255), 0);
        due("has no cover", p.told(0, 3), 0);
        due("back again", p.back(), 0);
        due("no layer", p.told(0, 3), Hand.BAD);
    }

    /** "AN IMAGE keeps all but SHEETS, THE TAPE" */
    private static void imageKeepsAllButSheetsAndTape() {
        RasterPainter p = Prepared.crowded();
        due("kept", p.image(), 4);
        long before = Hand.printOf(p);
        Hand.stroke(p, 0, "");
        while (p.undo(0) > 0) {
            p.undo(9);
        }
        for (int i = 3; i >= 0; i--) {
            p.drop(i);
        }
        p.brush(0, 0, 0, 0);
        p.dress(-1, 0, 0, 3);
        p.mask(0, 0, 15, 11, 2);
        p.sheet(0, -1, 0);
        p.sheet(1, 0, 2);
        due("back", p.back(), 4);
        due("the tape is empty", p.count(7), 0);
        due("sheet 0 is missing", p.put(0, 0, 0), Hand.MISSING);
        due("sheet 1 is of 2", p.put(1, 2, 0), Hand.OUTSIDE);
        Hand.feed(p, "move 0 0 line 15 11 close line 15 11 close close across   15");
        CHECK.holds("all else is as it was", before == Hand.printOf(p));
        for (int i = 0; i < 10; i++) {
            CHECK.holds("ten acts can be undone", p.undo(0) > 0);
        }
        due("no more", p.undo(0), Hand.STATE);
    }

    /** "SHEETS 0 .. 3 are rows of numbers, or missing (as all are at first)" */
    private static void sheetsAreMissingAtFirst() {
        RasterPainter p = new RasterPainter();
        for (int sheet = 0; sheet < 4; sheet++) {
            due("put", p.put(sheet, 0, 0), Hand.MISSING);
            due("tells", p.tells(sheet, 0, 0), Hand.MISSING);
            due("copy", p.copy(sheet, 0, sheet, 0, 0), Hand.MISSING);
        }
        p.sheet(2, 1, 1);
        due("one isn't", p.put(2, 0, 0), 1);
        due("the one before is", p.put(1, 0, 0), Hand.MISSING);
        due("the one behind is", p.put(3, 0, 0), Hand.MISSING);
    }

    /** "A SHEET becomes a row of n of a sort, all 0"; "n above 40; -14" */
    private static void sheetsOf0AndOf40() {
        RasterPainter p = new RasterPainter();
        p.dress(-1, 0, 0, 0);
        for (int sort = 0; sort <= 1; sort++) {
            due("of 40", p.sheet(0, sort, 40), 1);
            due("the last item", p.put(0, 39, 5), 1);
            due("behind it", p.put(0, 40, 5), Hand.OUTSIDE);
            for (int i = 0; i < 16; i++) {
                p.put(0, i, 5);
            }
            due("of 16", p.sheet(0, sort, 16), 1);
            due("all 0", p.tells(0, 0, 0), -1);
            due("of 0", p.sheet(0, sort, 0), 1);
            due("no item", p.put(0, 0, 5), Hand.OUTSIDE);
            due("of 1", p.sheet(0, sort, 1), 1);
            due("its item is 0", p.tells(0, 0, 0), -1);
            due("of 41", p.sheet(0, sort, 41), Hand.BAD);
            due("of -1", p.sheet(0, sort, -1), Hand.BELOW_ZERO);
            due("one item as before", p.put(0, 0, 0), 1);
        }
    }

    /** "of shorts its lowest 16 bits" */
    private static void shortsWrapAround() {
        RasterPainter p = new RasterPainter();
        p.sheet(0, 0, 1);
        int[] white = {255, 65536 + 255, 255 - 65536, LEAST + 255, 0x7fff00ff, 0xffff00ff};
        for (int v : white) {
            p.put(0, 0, v);
            due(v + " is 255", p.tells(0, 0, 0), -1);
        }
        int[] others = {-1, 65535, 32767, 32768, -32768, -32769, 511, 255 - 256, GREATEST, LEAST, 65536};
        for (int v : others) {
            p.put(0, 0, v);
            due(v + " isn't 255", p.tells(0, 0, 0), 0);
        }
        p.dress(-1, 0, 0, 0);
        int[] black = {0, 65536, -65536, LEAST, 0x7fff0000};
        for (int v : black) {
            p.put(0, 0, v);
            due(v + " is 0", p.tells(0, 0, 0), -1);
        }
    }

    private static void intsDoNot() {
        RasterPainter p = new RasterPainter();
        p.sheet(0, 1, 1);
        int[] others = {65536 + 255, 255 - 65536, LEAST + 255, 0x7fff00ff, LEAST, GREATEST};
        for (int v : others) {
            p.put(0, 0, v);
            due(v + " isn't 255", p.tells(0, 0, 0), 0);
        }
        p.put(0, 0, 255);
        due("255 is", p.tells(0, 0, 0), -1);
    }

    private static void copyOfNoneAndOfAll() {
        RasterPainter p = new RasterPainter();
        for (int sort = 0; sort <= 1; sort++) {
            tell(p, 0, sort, 16, 255);
            p.sheet(1, sort, 16);
            due("none", p.copy(0, 3, 1, 3, 0), 0);
            due("nothing came", p.tells(1, 0, 0), 0);
            due("all but one", p.copy(0, 1, 1, 1, 15), 15);
            due("the first didn't come", p.tells(1, 0, 0), 0);
            due("one", p.copy(0, 15, 1, 0, 1), 1);
            due("all came", p.tells(1, 0, 0), -1);
            p.sheet(1, sort, 16);
            due("all", p.copy(0, 0, 1, 0, 16), 16);
            due("all came at once", p.tells(1, 0, 0), -1);
            due("one more", p.copy(0, 0, 1, 0, 17), Hand.OUTSIDE);
            p.sheet(2, sort, 0);
            due("none of none", p.copy(2, 0, 2, 0, 0), 0);
            due("one of none", p.copy(2, 0, 1, 0, 1), Hand.OUTSIDE);
        }
    }

    /** "(as they were)": within one sheet, to both sides */
    private static void copyAsTheyWere() {
        RasterPainter p = rowOf(10, 10, 20, 30);
        p.sheet(0, 1, 4);
        int[] first = {10, 20, 30, 40};
        for (int i = 0; i < 4; i++) {
            p.put(0, i, first[i]);
        }
        due("to the right", p.copy(0, 0, 0, 1, 3), 3);
        due("are 10 10 20 30", p.tells(0, 0, 0), -1);
        paintRow(p, 0, 10, 20, 30, 30);
        due("to the left", p.copy(0, 1, 0, 0, 3), 3);
        due("are 10 20 30 30", p.tells(0, 0, 0), -1);
        due("to where they are", p.copy(0, 0, 0, 0, 4), 4);
        due("are as they were", p.tells(0, 0, 0), -1);
    }
}
