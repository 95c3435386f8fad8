/** Section 1 of the document: a test for each sentence that names a bound of dots, layers, modes, painting, the mask. */
final class PictureEdgeTests {
    private static final Check CHECK = new Check("PictureEdgeTests");
    /** A dot that a brush of radius 4 just reaches from (4, 4); AIR of flow 1 has a TOUCH of 1 there. */
    private static final int RIM_X = 8, RIM_Y = 4;

    private PictureEdgeTests() {
    }

    public static void main(String[] args) {
        dotsHaveCorners();
        layersAreFourAtMost();
        layersAreSeenLowestFirst();
        inkAndCoverAre0AtFirst();
        inkAndCoverAre255AtMost();
        opacity0IsNotSeen();
        opacityAndCoverAreCut();
        paperIs255AtFirst();
        figureIs99AtMost();
        burnIs0AtLeast();
        glowIs255AtMost();
        modesAtTheEndsOfBelow();
        modesAtTheEndsOfInk();
        seenIsCutTowards0();
        inkIsCutTowards0();
        paintedBy0();
        paintedByTheLeast();
        paintedBy255();
        wipedBy0();
        wipedByTheLeast();
        wipedBy255();
        allAreFreeByAnEmptyMask();
        onlyTheMaskIsFree();
        CHECK.close();
    }

    private static void due(String what, long got, long want) {
        CHECK.due(what, got, want);
    }

    private static void dotIs(String what, RasterPainter p, int x, int y, int ink, int cover) {
        due(what + ": INK", p.dot(0, x, y, 0), ink);
        due(what + ": COVER", p.dot(0, x, y, 1), cover);
    }

    /** "x 0 .. 15, y 0 .. 11" */
    private static void dotsHaveCorners() {
        int[][] corners = {{0, 0}, {15, 0}, {0, 11}, {15, 11}};
        for (int[] corner : corners) {
            RasterPainter p = Hand.withLayers(1);
            p.brush(0, 0, 9, 9);
            due("one dot", p.box(0, corner[0], corner[1], corner[0], corner[1]), 1);
            for (int[] c : corners) {
                boolean same = c == corner;
                dotIs("corner", p, c[0], c[1], same ? 9 : 0, same ? 255 : 0);
                due("corner: SEEN", p.dot(-1, c[0], c[1], 0), same ? 9 : 255);
            }
        }
    }

    /** "LAYERS 0 .. (4 at most ..; none at first)" */
    private static void layersAreFourAtMost() {
        RasterPainter p = new RasterPainter();
        due("none at first", p.count(0), 0);
        for (int i = 0; i < 4; i++) {
            due("a layer comes", p.layer(0, 0, 0), i);
        }
        due("a fifth", p.layer(0, 0, 0), Hand.FULL);
        due("one goes", p.drop(0), 3);
        due("there is room for one", p.layer(0, 0, 0), 3);
        due("and no more", p.layer(0, 0, 0), Hand.FULL);
        for (int i = 3; i >= 0; i--) {
            due("all go", p.drop(0), i);
        }
        due("none is left", p.drop(0), Hand.BAD);
    }

    /** "the lowest first" */
    private static void layersAreSeenLowestFirst() {
        RasterPainter p = Hand.withLayers(4);
        for (int i = 0; i < 4; i++) {
            p.brush(0, 0, 10 * i, 9);
            p.box(i, i, 0, 3, 0);
        }
        for (int x = 0; x < 4; x++) {
            due("the highest that has cover there", p.dot(-1, x, 0, 0), 10 * x);
        }
        p.move(3, 0);
        due("the highest is the lowest then", p.dot(-1, 3, 0, 0), 20);
    }

    /** "INK and COVER (0 .. 255; 0 at first)" */
    private static void inkAndCoverAre0AtFirst() {
        RasterPainter p = Hand.withLayers(1);
        for (int i = 0; i < 192; i++) {
            dotIs("at first", p, i % 16, i / 16, 0, 0);
        }
    }

    private static void inkAndCoverAre255AtMost() {
        RasterPainter p = Hand.withLayers(1);
        p.brush(0, 4, 255, 9);
        for (int i = 0; i < 3; i++) {
            p.box(0, 0, 0, 15, 11);
            Hand.stroke(p, 0, "move 8 6 across 9");
            dotIs("full", p, 8, 6, 255, 255);
        }
        p.brush(3, 4, 255, 5);
        Hand.stroke(p, 0, "move 8 6 across 9");
        dotIs("still full", p, 8, 6, 255, 255);
    }

    private static RasterPainter black() {
        RasterPainter p = Hand.withLayers(1);
        p.box(0, 0, 0, 15, 11);
        return p;
    }

    /** "an OPACITY (0 .. 255; 0: it isn't seen)" */
    private static void opacity0IsNotSeen() {
        RasterPainter p = black();
        int[][] seen = {{0, 255}, {1, 254}, {2, 253}, {128, 127}, {254, 1}, {255, 0}};
        for (int[] s : seen) {
            p.dress(0, 0, 0, s[0]);
            due("black by opacity " + s[0], p.dot(-1, 3, 3, 0), s[1]);
        }
        RasterPainter q = new RasterPainter();
        q.layer(0, 0, 0);
        q.box(0, 0, 0, 15, 11);
        due("a layer that comes with opacity 0", q.dot(-1, 3, 3, 0), 255);
        due("has its dots all the same", q.told(0, 3), 192);
    }

    /** "e is COVER OPACITY by 255": less than 1 is 0 */
    private static void opacityAndCoverAreCut() {
        RasterPainter p = black();
        p.brush(3, 4, -1, 1);
        Hand.stroke(p, 0, "move 4 4");
        due("wiped by 1", p.dot(0, RIM_X, RIM_Y, 1), 254);
        p.dress(0, 0, 0, 1);
        due("254 by 255", p.dot(-1, RIM_X, RIM_Y, 0), 255);
        due("255 by 255", p.dot(-1, 15, 11, 0), 254);
        p.dress(0, 0, 0, 2);
        due("508 by 255", p.dot(-1, RIM_X, RIM_Y, 0), 254);
    }

    /** "PAPER is 0 .. 255 (255 at first)" */
    private static void paperIs255AtFirst() {
        RasterPainter p = new RasterPainter();
        due("at first", p.dot(-1, 15, 11, 0), 255);
        due("PAPER that was", p.dress(-1, 0, 0, 0), 255);
        due("the least", p.dot(-1, 15, 11, 0), 0);
        due("the least that was", p.dress(-1, 0, 0, 255), 0);
        due("the greatest", p.dot(-1, 0, 0, 0), 255);
    }

    /** "a MODE with a FIGURE (0 .. 99)" */
    private static void figureIs99AtMost() {
        RasterPainter p = new RasterPainter();
        due("the least comes", p.layer(3, 0, 255), 0);
        due("the greatest comes", p.layer(4, 99, 255), 1);
        due("the least", p.told(0, 1), 0);
        due("the greatest", p.told(1, 1), 99);
        due("by the least", p.taken(0, 3, 90), 70);
        due("by the greatest", p.taken(1, 4, 0), 255);
        p.dress(0, 3, 99, 255);
        p.dress(1, 4, 0, 255);
        due("dressed, the greatest", p.taken(0, 3, 255), 101);
        due("dressed, the least", p.taken(1, 4, 90), 220);
    }

    /** What a mode of these figures makes of 90 below and INK 200: as taken, and as seen. */
    private static void makes(int mode, int[][] figures) {
        RasterPainter p = Hand.withLayers(1);
        p.brush(0, 0, 200, 9);
        p.box(0, 0, 0, 0, 0);
        p.dress(-1, 0, 0, 90);
        for (int[] f : figures) {
            p.dress(0, mode, f[0], 255);
            due("mode " + mode + " of figure " + f[0], p.taken(0, mode, 90), f[1]);
            due("mode " + mode + " of figure " + f[0] + ", seen", p.dot(-1, 0, 0, 0), f[1]);
        }
    }

    /** "a TIMES one's less FIGURE, 0 at least" */
    private static void burnIs0AtLeast() {
        makes(3, new int[][] {{0, 70}, {1, 69}, {69, 1}, {70, 0}, {71, 0}, {99, 0}});
    }

    /** "a SCREEN one's and FIGURE, 255 at most" */
    private static void glowIs255AtMost() {
        makes(4, new int[][] {{0, 220}, {1, 221}, {34, 254}, {35, 255}, {36, 255}, {99, 255}});
    }

    private static void modesAtTheEndsOfBelow() {
        RasterPainter p = Hand.withLayers(1);
        // PLAIN, TIMES, SCREEN, BURN, GLOW, APART of figure 5 with INK 200 on 0, 1, 200, 254, 255
        int[] belows = {0, 1, 200, 254, 255};
        int[][] made = {{200, 200, 200, 200, 200}, {0, 0, 156, 199, 200}, {200, 201, 244, 255, 255},
            {0, 0, 151, 194, 195}, {205, 206, 249, 255, 255}, {200, 199, 0, 54, 55}};
        for (int mode = 0; mode < 6; mode++) {
            p.dress(0, mode, 5, 255);
            for (int i = 0; i < belows.length; i++) {
                due("mode " + mode + " on " + belows[i], p.taken(0, mode, belows[i]), made[mode][i]);
            }
        }
    }

    private static void modesAtTheEndsOfInk() {
        // PLAIN, TIMES, SCREEN, BURN, GLOW, APART of figure 5 on 90
        int[][] made = {{0, 255}, {0, 90}, {90, 255}, {0, 85}, {95, 255}, {90, 165}};
        RasterPainter p = Hand.withLayers(1);
        p.dress(-1, 0, 0, 90);
        for (int end = 0; end < 2; end++) {
            p.brush(0, 0, 255 * end, 9);
            p.box(0, 0, 0, 0, 0);
            for (int mode = 0; mode < 6; mode++) {
                p.dress(0, mode, 5, 255);
                due("mode " + mode + " of INK " + 255 * end, p.dot(-1, 0, 0, 0), made[mode][end]);
            }
        }
    }

    /** "A quotient is cut, towards 0": of SEEN */
    private static void seenIsCutTowards0() {
        RasterPainter p = Hand.withLayers(1);
        p.brush(0, 0, 100, 9);
        p.box(0, 0, 0, 0, 0);
        p.dress(0, 0, 0, 254);
        // one more or less by 254 of 255: nothing
        int[][] papers = {{99, 99}, {101, 101}, {98, 99}, {102, 101}, {100, 100}};
        for (int[] paper : papers) {
            p.dress(-1, 0, 0, paper[0]);
            due("100 on " + paper[0] + " by 254", p.dot(-1, 0, 0, 0), paper[1]);
        }
    }

    /** "A quotient is cut, towards 0": of PAINTED */
    private static void inkIsCutTowards0() {
        // by a TOUCH of 240 (SOFT, radius 4, one beside)
        int[][] inks = {{99, 100}, {101, 100}, {98, 99}, {102, 101}, {0, 6}, {255, 245}};
        for (int[] ink : inks) {
            RasterPainter p = Hand.withLayers(1);
            p.brush(1, 4, 100, 9);
            p.box(0, 5, 4, 5, 4);
            p.brush(1, 4, ink[0], 9);
            due("the TOUCH", p.touch(1, 0), 240);
            Hand.stroke(p, 0, "move 4 4");
            dotIs(ink[0] + " over 100", p, 5, 4, ink[1], 255);
        }
    }

    private static void airAt4And4(RasterPainter p, int ink, int flow) {
        p.brush(3, 4, ink, flow);
        Hand.stroke(p, 0, "move 4 4");
    }

    /** The dot at the rim has INK 200 and COVER 1. */
    private static RasterPainter thin() {
        RasterPainter p = Hand.withLayers(1);
        airAt4And4(p, 200, 1);
        due("the least TOUCH", p.touch(4, 0), 1);
        dotIs("INK is v, if COVER was 0", p, RIM_X, RIM_Y, 200, 1);
        return p;
    }

    private static void nothingBy0(int ink) {
        RasterPainter p = thin();
        airAt4And4(p, ink, 0);
        Hand.stroke(p, 0, "move 8 4 line 12 8");
        dotIs("one that has cover", p, RIM_X, RIM_Y, 200, 1);
        dotIs("one without cover", p, 12, 8, 0, 0);
        due("no act", p.count(1), 1);
    }

    /** "PAINTED with v by c: if c isn't 0" */
    private static void paintedBy0() {
        nothingBy0(90);
        nothingBy0(255);
    }

    /** "INK is v, if COVER was 0, else INK and (v less INK) c by 255; COVER is COVER and (255 less COVER) c by 255" */
    private static void paintedByTheLeast() {
        RasterPainter p = thin();
        airAt4And4(p, 0, 1);
        dotIs("COVER wasn't 0: too little for a change", p, RIM_X, RIM_Y, 200, 1);
        p.brush(0, 0, 0, 9);
        p.box(0, RIM_X, RIM_Y, RIM_X, RIM_Y);
        airAt4And4(p, 254, 1);
        dotIs("254 by 255 of it", p, RIM_X, RIM_Y, 0, 255);
        airAt4And4(p, 255, 1);
        dotIs("255 by 255 of it", p, RIM_X, RIM_Y, 1, 255);
    }

    private static void paintedBy255() {
        RasterPainter p = thin();
        int[] inks = {0, 255, 1, 254};
        for (int ink : inks) {
            p.brush(0, 4, ink, 9);
            Hand.stroke(p, 0, "move 4 4");
            dotIs("wholly " + ink, p, RIM_X, RIM_Y, ink, 255);
            dotIs("wholly " + ink + ", in the middle", p, 4, 4, ink, 255);
        }
    }

    private static void wipedBy0() {
        nothingBy0(-1);
    }

    /** "WIPED by c: COVER is COVER (255 less c) by 255; INK is 0, if COVER is 0 then" */
    private static void wipedByTheLeast() {
        RasterPainter p = thin();
        airAt4And4(p, -1, 1);
        dotIs("COVER 1 is 0 then", p, RIM_X, RIM_Y, 0, 0);
        airAt4And4(p, -1, 1);
        dotIs("COVER 0 stays 0", p, RIM_X, RIM_Y, 0, 0);
        p.brush(3, 4, 200, 9);
        p.box(0, RIM_X, RIM_Y, RIM_X, RIM_Y);
        airAt4And4(p, -1, 1);
        dotIs("COVER 255 is 254, INK stays", p, RIM_X, RIM_Y, 200, 254);
    }

    private static void wipedBy255() {
        RasterPainter p = thin();
        p.box(0, 4, 4, 4, 4);
        p.brush(0, 4, -1, 9);
        Hand.stroke(p, 0, "move 4 4");
        dotIs("little cover", p, RIM_X, RIM_Y, 0, 0);
        dotIs("whole cover", p, 4, 4, 0, 0);
        due("nothing is left", p.told(0, 3), 0);
    }

    /** "FREE are those in THE MASK, or all, if it is empty" */
    private static void allAreFreeByAnEmptyMask() {
        RasterPainter p = Hand.withLayers(1);
        due("empty at first", p.count(4), 0);
        due("all are free", p.box(0, 0, 0, 15, 11), 192);
        p.mask(3, 3, 3, 3, 0);
        p.mask(3, 3, 3, 3, 2);
        due("empty again", p.count(4), 0);
        p.brush(0, 0, -1, 9);
        due("all are free again", p.flood(0, 0, 0, 255), 192);
        due("and wiped", p.told(0, 3), 0);
        p.mask(0, 0, 15, 11, 0);
        due("all by a full mask", p.box(0, 0, 0, 15, 11), 192);
    }

    /** "no others are PAINTED, WIPED" */
    private static void onlyTheMaskIsFree() {
        RasterPainter p = Hand.withLayers(1);
        p.mask(15, 11, 15, 11, 0);
        due("one dot is free", p.box(0, 0, 0, 15, 11), 1);
        due("it is painted", p.told(0, 3), 1);
        p.grow(2);
        due("all but one are free", p.flood(0, 0, 0, 255), 191);
        p.brush(2, 4, -1, 9);
        Hand.stroke(p, 0, "move 15 11");
        due("all but one are wiped", p.told(0, 3), 192 - 24);
        due("that one isn't", p.dot(0, 15, 11, 1), 255);
    }
}
