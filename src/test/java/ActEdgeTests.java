/** Section 2 of the document: a test for each sentence that names a bound of brushes, the tape, regions, tiles, acts. */
final class ActEdgeTests {
    private static final Check CHECK = new Check("ActEdgeTests");
    private static final int ROUND = 0, SOFT = 1, SQUARE = 2, AIR = 3, CROSS = 4;

    private ActEdgeTests() {
    }

    public static void main(String[] args) {
        brushAtFirst();
        radius0IsOneDot();
        radius4IsTheWidest();
        roundEndsAtRadiusTimesRadius();
        softEndsWithRound();
        squareEndsAtRadius();
        airByFlow0And9();
        crossHasArmsAlone();
        touchGoesFrom9To9();
        stampsEndAtThePicture();
        tapeHas60Bytes();
        tokensAreAsLongAsCanBe();
        numbersHaveTwoDigits();
        numbersEndAt15And11();
        blanksMayStandBetween();
        textEndsTooEarly();
        firstTokenMustBeMove();
        lineOfNone();
        lineStepsAreCutDownwards();
        closeIsALineToMove();
        regionByT();
        regionEndsAtThePicture();
        regionOfOneAndOfAll();
        tilesAreFourByFour();
        actsWithoutTilesAreNotKept();
        actsAreTenAtMost();
        doneAgainTillAnotherIsKept();
        layersForgetActs();
        noOtherCallForgetsActs();
        countsAtTheirLeastAndMost();
        CHECK.close();
    }

    private static void due(String what, long got, long want) {
        CHECK.due(what, got, want);
    }

    private static int touch(int kind, int radius, int flow, int dx, int dy) {
        RasterPainter p = new RasterPainter();
        p.brush(kind, radius, 0, flow);
        return p.touch(dx, dy);
    }

    /** "a KIND (ROUND at first), a RADIUS (0 .. 4; 1 at first), an INK (..; 0 at first), a FLOW (0 .. 9; 9 at first)" */
    private static void brushAtFirst() {
        RasterPainter p = Hand.withLayers(1);
        due("FLOW", p.count(5), 9);
        due("INK", p.count(6), 0);
        due("beside", p.touch(0, -1), 255);
        due("across", p.touch(-1, -1), 0);
        Hand.stroke(p, 0, "move 8 6");
        due("five dots", p.told(0, 3), 5);
        due("of INK 0", p.dot(-1, 8, 6, 0), 0);
        due("KIND and RADIUS", p.brush(4, 4, 0, 0), 1);
        due("the last KIND and RADIUS", p.brush(0, 0, 0, 0), 44);
    }

    private static int stamped(int kind, int radius, String where) {
        RasterPainter p = Hand.withLayers(1);
        p.brush(kind, radius, 7, 9);
        Hand.stroke(p, 0, where);
        return p.told(0, 3);
    }

    private static void radius0IsOneDot() {
        for (int kind = ROUND; kind <= CROSS; kind++) {
            due("the middle of KIND " + kind, touch(kind, 0, 9, 0, 0), 255);
            due("right of it", touch(kind, 0, 9, 1, 0), 0);
            due("left of it", touch(kind, 0, 9, -1, 0), 0);
            due("below it", touch(kind, 0, 9, 0, 1), 0);
            due("above it", touch(kind, 0, 9, 0, -1), 0);
            due("stamped", stamped(kind, 0, "move 8 6"), 1);
        }
    }

    private static void radius4IsTheWidest() {
        int[] dots = {49, 49, 81, 49, 17};
        for (int kind = ROUND; kind <= CROSS; kind++) {
            due("stamped by KIND " + kind, stamped(kind, 4, "move 8 6"), dots[kind]);
        }
    }

    /** "255, if D is RADIUS RADIUS or less, else 0" */
    private static void roundEndsAtRadiusTimesRadius() {
        for (int radius = 0; radius <= 4; radius++) {
            due("D is RADIUS RADIUS", touch(ROUND, radius, 9, -radius, 0), 255);
            due("D is 1 more", touch(ROUND, radius, 9, radius, 1), 0);
        }
        due("D is 13 of 16", touch(ROUND, 4, 9, -2, 3), 255);
        due("D is 18 of 16", touch(ROUND, 4, 9, 3, -3), 0);
        due("D is 8 of 9", touch(ROUND, 3, 9, 2, 2), 255);
        due("D is 10 of 9", touch(ROUND, 3, 9, 1, 3), 0);
    }

    /** "of what a ROUND one's is (as a float) times (1 less the float D by (RADIUS RADIUS and 1)) the whole part" */
    private static void softEndsWithRound() {
        // by exact numbers radius 2 would have 51 and radius 4 would have 15
        int[] rims = {255, 127, 50, 25, 14};
        for (int radius = 0; radius <= 4; radius++) {
            due("the middle", touch(SOFT, radius, 0, 0, 0), 255);
            due("the rim of radius " + radius, touch(SOFT, radius, 0, 0, radius), rims[radius]);
            due("behind the rim", touch(SOFT, radius, 0, -1, radius), 0);
        }
    }

    /** "255, if neither is more than RADIUS away from 0" */
    private static void squareEndsAtRadius() {
        for (int radius = 0; radius <= 4; radius++) {
            due("a corner", touch(SQUARE, radius, 9, radius, -radius), 255);
            due("the other corner", touch(SQUARE, radius, 9, -radius, radius), 255);
            due("dx is 1 more", touch(SQUARE, radius, 9, -radius - 1, 0), 0);
            due("dy is 1 more", touch(SQUARE, radius, 9, 0, radius + 1), 0);
        }
    }

    /** "of what a SOFT one's is (that whole part, as a float) times FLOW by 9" */
    private static void airByFlow0And9() {
        int[] rims = {255, 127, 50, 25, 14};
        for (int radius = 0; radius <= 4; radius++) {
            due("FLOW 0", touch(AIR, radius, 0, 0, 0), 0);
            due("FLOW 9", touch(AIR, radius, 9, 0, 0), 255);
            due("FLOW 1", touch(AIR, radius, 1, 0, 0), 28);
            due("FLOW 8", touch(AIR, radius, 8, 0, 0), 226);
            due("FLOW 9 at the rim", touch(AIR, radius, 9, -radius, 0), rims[radius]);
            due("FLOW 1 at the rim", touch(AIR, radius, 1, -radius, 0), rims[radius] / 9);
            due("behind the rim", touch(AIR, radius, 9, radius, 1), 0);
        }
    }

    /** "a SQUARE one's, if dx or dy is 0, else 0" */
    private static void crossHasArmsAlone() {
        for (int radius = 1; radius <= 4; radius++) {
            due("an arm", touch(CROSS, radius, 9, radius, 0), 255);
            due("the other arm", touch(CROSS, radius, 9, 0, -radius), 255);
            due("behind the arm", touch(CROSS, radius, 9, -radius - 1, 0), 0);
            due("beside the arm", touch(CROSS, radius, 9, radius, 1), 0);
            due("between the arms", touch(CROSS, radius, 9, 1, -1), 0);
        }
    }

    /** "TOUCH (dx, dy -9 .. 9)": far from every brush */
    private static void touchGoesFrom9To9() {
        int[] ends = {-9, 9};
        for (int kind = ROUND; kind <= CROSS; kind++) {
            for (int end : ends) {
                due("farthest", touch(kind, 4, 9, end, 0), 0);
                due("farthest across", touch(kind, 4, 9, end, -end), 0);
                due("one farther", touch(kind, 4, 9, end + end / 9, 0), Hand.BAD);
                due("one farther down", touch(kind, 4, 9, 0, end + end / 9), Hand.BAD);
            }
        }
    }

    private static void stampsEndAtThePicture() {
        String[] corners = {"move 0 0", "move 15 0", "move 0 11", "move 15 11"};
        for (String corner : corners) {
            due("SQUARE at " + corner, stamped(SQUARE, 4, corner), 25);
            due("ROUND at " + corner, stamped(ROUND, 4, corner), 17);
            due("CROSS at " + corner, stamped(CROSS, 4, corner), 9);
        }
        due("SQUARE that just has room", stamped(SQUARE, 4, "move 4 4"), 81);
        due("SQUARE that just hasn't", stamped(SQUARE, 4, "move 3 7"), 72);
        due("SQUARE that just hasn't, down", stamped(SQUARE, 4, "move 11 8"), 72);
    }

    private static void strokes(String text, int want) {
        RasterPainter p = Hand.withLayers(1);
        due("'" + text + "'", Hand.stroke(p, 0, text), want);
        due("the tape behind '" + text + "'", p.count(7), 0);
    }

    /** "THE TAPE (60 bytes at most)" */
    private static void tapeHas60Bytes() {
        String sixty = "move 0 0 line 15 11 close line 15 11 close close across   15";
        RasterPainter p = Hand.withLayers(1);
        due("empty at first", p.count(7), 0);
        due("an empty text", p.stroke(0), -100);
        due("60 bytes", Hand.feed(p, sixty), 60);
        due("one more", p.feed(1, 32, 0, 0, 0, 0), Hand.FULL);
        due("all are read", p.stroke(0), 76);
        due("empty then", p.count(7), 0);
        due("there is room again", Hand.feed(p, sixty), 60);
        strokes(sixty.substring(0, 59), 62);
        strokes(sixty.substring(0, 58), -158);
    }

    /** "TOKENS, each as long as can be" */
    private static void tokensAreAsLongAsCanBe() {
        strokes("movemove 1 1", -100);
        strokes("move 1 1 closeclose", -109);
        strokes("move 1 1 lineline 2 2", -109);
        strokes("move 1 1 acrossdown 2", -109);
        strokes("move111", -104);
        strokes("move1 1line2 2across5down9close", 20);
        strokes("move 1 1 across 123", -116);
    }

    /** "NUMBERS (.. more than 2 are too long)" */
    private static void numbersHaveTwoDigits() {
        strokes("move 0 0", 1);
        strokes("move 00 00", 1);
        strokes("move 09 09", 1);
        strokes("move 000 0", -105);
        strokes("move 0 000", -107);
        strokes("move 0 0 line 001 1", -114);
        strokes("move 0 0 down 001", -114);
        strokes("move 0 0 across 0000000000000000000000000000000000000000001", -116);
        strokes("move 4294967296 0", -105);
    }

    /** "(X 0 .. 15, Y 0 .. 11)" */
    private static void numbersEndAt15And11() {
        strokes("move 15 11", 1);
        strokes("move 16 11", -105);
        strokes("move 15 12", -108);
        strokes("move 0 0 line 15 11", 16);
        strokes("move 0 0 line 16 11", -114);
        strokes("move 0 0 line 15 12", -117);
        strokes("move 0 0 across 15", 16);
        strokes("move 0 0 across 16", -116);
        strokes("move 0 0 down 11", 12);
        strokes("move 0 0 down 12", -114);
        strokes("move 99 0", -105);
        strokes("move 0 99", -107);
    }

    /** "blanks (32, 10) may stand between" */
    private static void blanksMayStandBetween() {
        strokes("move1 1", 1);
        strokes("\n move\n\n1 \n1\n ", 1);
        strokes("move 1 1close", 1);
        strokes("mo ve 1 1", -100);
        int[] none = {9, 11, 13, 31, 33, 0, 160, 255};
        for (int b : none) {
            strokes("move" + (char) b + "1 1", -104);
            strokes("move 1 1" + (char) b, -108);
            strokes("move 1 1 " + (char) b, -109);
        }
        int[] besideDigitsAndLetters = {'0' - 1, '9' + 1, 'a' - 1, 'z' + 1, 'A', 'Z'};
        for (int b : besideDigitsAndLetters) {
            strokes("move " + (char) b + " 1", -105);
            strokes((char) b + "move 1 1", -100);
        }
    }

    /** "the text's size, if it ends too early" */
    private static void textEndsTooEarly() {
        strokes("", -100);
        strokes(" ", -101);
        strokes(" \n ", -103);
        strokes("move", -104);
        strokes("move ", -105);
        strokes("move 1", -106);
        strokes("move 1  ", -108);
        strokes("move 1 1 line", -113);
        strokes("move 1 1 line 2 ", -116);
        strokes("move 1 1 across\n", -116);
        strokes("move 1 1 down", -113);
        strokes("                                                            ", -160);
        strokes("move                                                        ", -160);
    }

    private static void firstTokenMustBeMove() {
        String[] words = {"line 1 1", "across 1", "down 1", "close", "1 1", "mov 1 1", "moved 1 1"};
        for (String word : words) {
            strokes(word, -100);
            strokes("  " + word, -102);
        }
        strokes("move 1 1 move 2 2", -109);
    }

    /** "the greater of how far x and y are apart (0: none)" */
    private static void lineOfNone() {
        strokes("move 3 4", 1);
        strokes("move 3 4 line 3 4", 1);
        strokes("move 3 4 across 3", 1);
        strokes("move 3 4 down 4", 1);
        strokes("move 3 4 close", 1);
        strokes("move 3 4 line 4 4", 2);
        strokes("move 3 4 line 3 5", 2);
        strokes("move 3 4 line 2 3", 2);
        strokes("move 15 0 line 0 11", 16);
        strokes("move 3 11 line 4 0", 12);
    }

    private static void painted(String text, int... rows) {
        RasterPainter p = Hand.withLayers(1);
        p.brush(0, 0, 9, 9);
        Hand.stroke(p, 0, text);
        for (int y = 0; y < rows.length; y++) {
            due("row " + y + " of '" + text + "'", Hand.coveredRow(p, 0, y), rows[y]);
        }
    }

    /** "x and (2 k (X less x) and n) by 2 n (cut downwards)": halves go up, also where the line goes back */
    private static void lineStepsAreCutDownwards() {
        painted("move 0 0 line 2 1", 0b001, 0b110);
        painted("move 2 1 line 0 0", 0b001, 0b110);
        painted("move 0 1 line 2 0", 0b100, 0b011);
        painted("move 2 0 line 0 1", 0b100, 0b011);
        painted("move 1 0 line 0 4", 0b10, 0b10, 0b10, 0b01, 0b01);
        painted("move 0 4 line 1 0", 0b10, 0b10, 0b10, 0b01, 0b01);
        painted("move 0 1 line 15 0", 0xff00, 0x00ff);
        painted("move 15 0 line 0 1", 0xff00, 0x00ff);
    }

    /** "close is a line to where move was", and that is the latest place then */
    private static void closeIsALineToMove() {
        painted("move 0 0 across 3 close down 2", 0b1111, 0b0001, 0b0001, 0);
        painted("move 3 0 down 2 across 1 close", 0b1000, 0b1100, 0b1110, 0);
        strokes("move 0 0 across 3 close close close", 7);
    }

    /** Dot (5, 5) has ink 100, the one right of it this ink; all others have no cover. */
    private static RasterPainter beside(int ink) {
        RasterPainter p = Hand.withLayers(1);
        p.brush(0, 0, 100, 9);
        p.box(0, 5, 5, 5, 5);
        p.brush(0, 0, ink, 9);
        p.box(0, 6, 5, 6, 5);
        p.brush(0, 0, 7, 9);
        return p;
    }

    /** "INK and COVER are both no more than t away from those of the DOT that was told" */
    private static void regionByT() {
        int[] ups = {0, 1, 100, 154};
        for (int t : ups) {
            due("INK t more", beside(100 + t).flood(0, 5, 5, t), 2);
            due("INK t and 1 more", beside(101 + t).flood(0, 5, 5, t), 1);
        }
        int[] downs = {0, 1, 50, 99};
        for (int t : downs) {
            due("INK t less", beside(100 - t).flood(0, 5, 5, t), 2);
            due("INK t and 1 less", beside(99 - t).flood(0, 5, 5, t), 1);
        }
        due("COVER 255 away by 254", beside(100).flood(0, 5, 5, 254), 2);
        due("COVER 255 away by 255", beside(100).flood(0, 5, 5, 255), 192);
        due("from a dot without cover by 254", beside(100).flood(0, 0, 0, 254), 190);
        RasterPainter p = Hand.withLayers(1);
        p.brush(AIR, 0, 0, 5);
        Hand.stroke(p, 0, "move 5 5");
        due("COVER 141 away by 140", p.wand(0, 5, 5, 140, 0), 1);
        due("COVER 141 away by 141", p.wand(0, 5, 5, 141, 0), 192);
        due("the other way by 140", p.wand(0, 0, 0, 140, 0), 191);
        due("the other way by 141", p.wand(0, 0, 0, 141, 0), 192);
    }

    /** A row's last dot isn't beside the next row's first, nor the last row beside the first. */
    private static void regionEndsAtThePicture() {
        RasterPainter p = Hand.withLayers(1);
        int[][] alone = {{15, 3}, {0, 4}, {0, 2}, {7, 0}, {7, 11}, {0, 0}, {15, 11}, {0, 11}, {15, 0}};
        for (int[] a : alone) {
            p.box(0, a[0], a[1], a[0], a[1]);
        }
        for (int[] a : alone) {
            due("alone at " + a[0] + ", " + a[1], p.wand(0, a[0], a[1], 0, 0), 1);
        }
    }

    private static void regionOfOneAndOfAll() {
        RasterPainter p = Hand.withLayers(1);
        due("all", p.wand(0, 15, 11, 0, 0), 192);
        due("all, from the other end", p.wand(0, 0, 0, 255, 0), 192);
        p.box(0, 5, 5, 5, 5);
        due("one", p.wand(0, 5, 5, 0, 0), 1);
        due("all but one", p.wand(0, 0, 0, 0, 0), 191);
    }

    /** "TILES are squares of 4 by 4 DOTS" */
    private static void tilesAreFourByFour() {
        for (int tile = 0; tile < 12; tile++) {
            int x = tile % 4 * 4;
            int y = tile / 4 * 4;
            RasterPainter p = Hand.withLayers(1);
            p.box(0, x, y, x + 3, y + 3);
            due("a tile", p.count(3), 1);
            due("undone", p.undo(0), 1);
            due("a wider box", tilesOf(x, y, Math.min(x + 4, 15), y + 3), x < 12 ? 2 : 1);
            due("a higher box", tilesOf(x, y, x + 3, Math.min(y + 4, 11)), y < 8 ? 2 : 1);
            due("a box from one before", tilesOf(Math.max(x - 1, 0), y, x + 3, y), x > 0 ? 2 : 1);
            due("a box from one above", tilesOf(x, Math.max(y - 1, 0), x, y + 3), y > 0 ? 2 : 1);
        }
        due("all", tilesOf(0, 0, 15, 11), 12);
        due("four corners", tilesOf(3, 3, 4, 4), 4);
    }

    private static int tilesOf(int x, int y, int u, int v) {
        RasterPainter p = Hand.withLayers(1);
        p.box(0, x, y, u, v);
        return p.undo(0);
    }

    /** "those TILES .. in which a DOT is otherwise by it ..; if there are none, it isn't kept" */
    private static void actsWithoutTilesAreNotKept() {
        RasterPainter p = Hand.withLayers(1);
        p.brush(0, 0, 9, 9);
        p.box(0, 0, 0, 4, 0);
        p.box(0, 9, 9, 9, 9);
        p.undo(0);
        due("a box that changes nothing", p.box(0, 0, 0, 4, 0), 5);
        due("a flood that changes nothing", p.flood(0, 0, 0, 0), 5);
        due("a stroke that changes nothing", Hand.stroke(p, 0, "move 0 0 across 4"), 5);
        p.mask(15, 11, 15, 11, 0);
        due("a box of none", p.box(0, 0, 0, 9, 9), 0);
        due("one is kept", p.count(1), 1);
        due("one can be done again", p.count(2), 1);
        due("tiles of both", p.count(3), 3);
        due("it is done again", p.undo(1), 1);
        p.grow(2);
        p.brush(0, 0, 10, 9);
        p.box(0, 0, 0, 15, 0);
        due("ink alone is a change", p.count(3), 7);
        p.brush(0, 0, 10, 9);
        p.box(0, 0, 0, 15, 1);
        due("tiles with a change, though of one row", p.count(3), 11);
    }

    /** "10 ACTS are kept, the oldest goes" */
    private static void actsAreTenAtMost() {
        RasterPainter p = Hand.withLayers(1);
        for (int i = 0; i < 10; i++) {
            p.box(0, i, 0, i, 0);
        }
        due("ten", p.count(1), 10);
        p.undo(0);
        p.undo(1);
        due("ten again", p.count(1), 10);
        p.box(0, 10, 0, 15, 11);
        due("still ten", p.count(1), 10);
        due("tiles of the latest ten", p.count(3), 9 + 6);
        due("the latest", p.undo(0), 6);
        for (int i = 9; i > 0; i--) {
            due("the one before", p.undo(0), 1);
        }
        due("the oldest went", p.undo(0), Hand.STATE);
        due("its dot stays", Hand.coveredRow(p, 0, 0), 1);
        due("none kept", p.count(1), 0);
        due("ten can be done again", p.count(2), 10);
        for (int i = 1; i < 10; i++) {
            due("done again", p.undo(1), 1);
        }
        due("the latest done again", p.undo(1), 6);
        due("no more", p.undo(1), Hand.STATE);
        due("all is as it was", p.told(0, 3), 10 + 72);
    }

    /** "it can be DONE again then, till another ACT is kept" */
    private static void doneAgainTillAnotherIsKept() {
        RasterPainter p = Hand.withLayers(2);
        p.box(0, 0, 0, 0, 0);
        p.box(0, 1, 0, 1, 0);
        p.undo(0);
        p.box(1, 1, 0, 1, 0);
        due("an act of another layer does", p.undo(1), Hand.STATE);
        due("its dot isn't painted", p.dot(0, 1, 0, 1), 0);
        due("kept", p.count(1), 2);
    }

    /** "If a LAYER comes, goes, is moved (also to where it is), no ACTS are kept any more, none can be DONE again" */
    private static void layersForgetActs() {
        forgets("a layer comes", p -> p.layer(0, 0, 0), 3, 0);
        forgets("a layer goes", p -> p.drop(1), 2, 0);
        forgets("an empty layer goes", p -> p.drop(2), 2, 0);
        forgets("a layer is moved", p -> p.move(2, 0), 0, 1);
        forgets("a layer is moved to where it is", p -> p.move(1, 1), 1, 0);
    }

    private static void forgets(String what, Twins.Call change, int answer, int layerThen) {
        RasterPainter p = Hand.withLayers(3);
        p.box(0, 0, 0, 0, 0);
        p.box(1, 0, 0, 0, 0);
        p.undo(0);
        p.layer(6, 0, 0);
        p.drop(3);
        p.move(0, 3);
        due("acts stay by refusals", p.count(1) * 10 + p.count(2), 11);
        due(what, change.on(p), answer);
        due(what + ": kept", p.count(1), 0);
        due(what + ": can be done again", p.count(2), 0);
        due(what + ": tiles", p.count(3), 0);
        due(what + ": none to undo", p.undo(0), Hand.STATE);
        due(what + ": none to do again", p.undo(1), Hand.STATE);
        due(what + ": the dot stays", p.dot(layerThen, 0, 0, 1), 255);
    }

    private static void noOtherCallForgetsActs() {
        RasterPainter p = Hand.withLayers(2);
        p.box(0, 0, 0, 0, 0);
        p.box(1, 0, 0, 0, 0);
        p.undo(0);
        p.dress(1, 5, 99, 3);
        p.dress(-1, 0, 0, 3);
        p.brush(4, 4, -1, 0);
        p.mask(0, 0, 3, 3, 0);
        p.wand(0, 5, 5, 0, 1);
        p.grow(2);
        p.film(0, 0);
        p.sheet(1, 1, 3);
        p.image();
        p.back();
        due("a stroke of none", Hand.stroke(p, 0, "move 5 5"), 1);
        due("a faulty stroke", Hand.stroke(p, 0, "move x"), -105);
        due("kept", p.count(1), 1);
        due("can be done again", p.count(2), 1);
        due("done again", p.undo(1), 1);
        due("in its layer", p.dot(1, 0, 0, 1), 255);
    }

    private static void counts(String what, RasterPainter p, int... want) {
        for (int i = 0; i < want.length; i++) {
            due(what + ": count " + i, p.count(i), want[i]);
        }
    }

    /** Promise 28: each number at its least and at its most */
    private static void countsAtTheirLeastAndMost() {
        RasterPainter p = new RasterPainter();
        counts("bare", p, 0, 0, 0, 0, 0, 9, 0, 0);
        p = Hand.withLayers(4);
        for (int i = 0; i < 11; i++) {
            p.brush(0, 4, 245 + i, 9);
            p.box(i % 4, 0, 0, 15, 11);
        }
        p.grow(2);
        Hand.feed(p, "                                                            ");
        counts("full", p, 4, 10, 0, 120, 192, 9, 255, 60);
        for (int i = 1; i <= 10; i++) {
            due("undone", p.undo(0), 12);
            counts("undone " + i, p, 4, 10 - i, i, 120);
        }
        p.brush(0, 0, -1, 0);
        p.stroke(0);
        p.mask(15, 11, 0, 0, 2);
        counts("the brush at its least", p, 4, 0, 10, 120, 0, 0, -1, 0);
        p.drop(0);
        counts("forgotten", p, 3, 0, 0, 0, 0, 0, -1, 0);
    }
}
