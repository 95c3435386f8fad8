/** Promises 13 to 15: boxes, floods, undo. */
final class ActTests {
    private static final Check CHECK = new Check("ActTests");

    private ActTests() {
    }

    public static void main(String[] args) {
        promise13Box();
        promise13Mask();
        promise14Flood();
        promise14FloodOfTheFirst();
        promise14Mask();
        promise15Undo();
        promise15Tiles();
        promise15Unchanged();
        promise15Ten();
        promise15Again();
        promise15AfterLayers();
        CHECK.close();
    }

    private static void due(String what, long got, long want) {
        CHECK.due(what, got, want);
    }

    private static void promise13Box() {
        RasterPainter p = Hand.withLayers(2);
        p.brush(3, 0, 70, 1);
        due("box", p.box(1, 2, 1, 4, 2), 6);
        due("row 1", Hand.coveredRow(p, 1, 1), 0b11100);
        due("row 2", Hand.coveredRow(p, 1, 2), 0b11100);
        due("row 3", Hand.coveredRow(p, 1, 3), 0);
        due("all of them", p.told(1, 3), 6);
        due("no other layer", p.told(0, 3), 0);
        due("by 255, whatever the brush", p.dot(1, 3, 2, 1), 255);
        due("with the brush's ink", p.dot(1, 3, 2, 0), 70);
        due("in the other order", p.box(0, 4, 2, 2, 1), 6);
        due("in mixed order", p.box(0, 2, 2, 4, 1), 6);
        due("in mixed order, other", p.box(0, 4, 1, 2, 2), 6);
        due("the same dots", p.told(0, 3), 6);
        due("all", p.box(0, 15, 11, 0, 0), 192);
        due("one", p.box(0, 15, 11, 15, 11), 1);
        p.brush(0, 0, -1, 0);
        due("wiped", p.box(1, 0, 0, 3, 11), 48);
        due("wiped row", Hand.coveredRow(p, 1, 2), 0b10000);
        due("wiped ink", p.dot(1, 2, 2, 0), 0);
        p.brush(0, 0, 20, 9);
        p.box(1, 4, 2, 4, 2);
        due("painted over wholly", p.dot(1, 4, 2, 0), 20);
    }

    private static void promise13Mask() {
        RasterPainter p = Hand.withLayers(1);
        p.mask(3, 3, 5, 5, 0);
        due("free dots of the box", p.box(0, 0, 0, 4, 4), 4);
        due("free dots painted", p.told(0, 3), 4);
        due("none free", p.box(0, 8, 8, 9, 9), 0);
        due("none free, no act", p.count(1), 1);
        due("free though painted already", p.box(0, 0, 0, 4, 4), 4);
    }

    /** Walls from above and from below by turns: a region goes round them up and down. */
    private static RasterPainter withMaze() {
        RasterPainter p = Hand.withLayers(1);
        p.box(0, 3, 0, 3, 10);
        p.box(0, 6, 1, 6, 11);
        p.box(0, 9, 0, 9, 10);
        p.box(0, 12, 1, 12, 11);
        return p;
    }

    private static void promise14Flood() {
        RasterPainter p = Hand.withLayers(1);
        p.brush(0, 0, 50, 9);
        due("flood of all", p.flood(0, 7, 7, 0), 192);
        due("painted", p.dot(0, 15, 11, 0), 50);
        due("by 255", p.dot(0, 0, 0, 1), 255);
        p.brush(0, 0, 90, 9);
        p.box(0, 5, 0, 5, 11);
        p.brush(0, 0, 10, 9);
        due("left of a wall", p.flood(0, 0, 0, 39), 60);
        due("the wall", p.flood(0, 5, 5, 39), 12);
        due("right of it", p.flood(0, 6, 6, 39), 120);
        due("through the wall", p.flood(0, 6, 6, 40), 192);
        p.brush(0, 0, -1, 9);
        due("wiped", p.flood(0, 0, 0, 255), 192);
        due("wiped away", p.told(0, 3), 0);
        RasterPainter two = Hand.withLayers(1);
        two.box(0, 5, 4, 5, 5);
        two.box(0, 8, 4, 9, 4);
        due("one above", two.flood(0, 5, 5, 0), 2);
        due("one below", two.flood(0, 5, 4, 0), 2);
        due("one left", two.flood(0, 9, 4, 0), 2);
        due("one right", two.flood(0, 8, 4, 0), 2);
        for (int turn = 0; turn < 4; turn++) {
            RasterPainter way = withMaze();
            int x = turn % 2 == 0 ? 0 : 15;
            due("all the way of a maze", way.flood(0, x, turn < 2 ? 0 : 11, 0), 192 - 4 * 11);
        }
        RasterPainter q = Hand.withLayers(1);
        q.brush(0, 0, 0, 9);
        q.box(0, 0, 1, 1, 1);
        q.box(0, 1, 0, 1, 0);
        due("corners aren't beside", q.flood(0, 0, 0, 254), 1);
        due("cover counts", q.flood(0, 9, 9, 254), 188);
    }

    private static void promise14FloodOfTheFirst() {
        RasterPainter p = Hand.withColumns();
        p.brush(0, 0, 255, 9);
        due("near the dot told, not the one beside", p.flood(0, 5, 5, 20), 60);
        due("row", p.dot(0, 2, 0, 0), 20);
        due("row", p.dot(0, 3, 0, 0), 255);
        due("row", p.dot(0, 7, 0, 0), 255);
        due("row", p.dot(0, 8, 0, 0), 80);
        due("t just below", Hand.withColumns().flood(0, 5, 5, 9), 12);
        due("t just enough", Hand.withColumns().flood(0, 5, 5, 10), 36);
        due("t 255", Hand.withColumns().flood(0, 5, 5, 255), 192);
    }

    private static void promise14Mask() {
        RasterPainter p = Hand.withLayers(1);
        p.mask(0, 0, 0, 11, 0);
        p.mask(15, 0, 15, 11, 1);
        due("free dots of the region, also behind those not free", p.flood(0, 0, 0, 0), 24);
        due("row", Hand.coveredRow(p, 0, 3), 0x8001);
        due("from a dot that isn't free", p.flood(0, 5, 5, 0), 0);
        due("from a dot that isn't free, far", p.flood(0, 5, 5, 255), 24);
    }

    private static void promise15Undo() {
        RasterPainter p = Hand.withLayers(2);
        p.brush(1, 3, 40, 9);
        Hand.stroke(p, 0, "move 4 4 line 9 9");
        long first = Hand.printOf(p, 0);
        p.brush(0, 0, 200, 9);
        p.box(1, 0, 0, 15, 11);
        p.box(0, 3, 3, 8, 8);
        long second = Hand.printOf(p, 0);
        due("undo the box", p.undo(0), 9);
        due("as it was", Hand.printOf(p, 0), first);
        due("again", p.undo(1), 9);
        due("as it was made", Hand.printOf(p, 0), second);
        due("undo it", p.undo(0), 9);
        due("undo the other layer's", p.undo(0), 12);
        due("the other layer", p.told(1, 3), 0);
        due("the first layer stays", Hand.printOf(p, 0), first);
        due("undo the stroke", p.undo(0) > 0 ? 1 : 0, 1);
        due("all is undone", p.told(0, 3), 0);
        due("no more", p.undo(0), Hand.STATE);
        due("three can be done again", p.count(2), 3);
        p.undo(1);
        due("the stroke again", Hand.printOf(p, 0), first);
        due("two can be done again", p.count(2), 2);
        p.undo(1);
        p.undo(1);
        due("all again", Hand.printOf(p, 0), second);
        due("none can be done again", p.undo(1), Hand.STATE);
    }

    private static void promise15Tiles() {
        RasterPainter p = Hand.withLayers(1);
        p.box(0, 3, 3, 4, 4);
        due("four tiles", p.count(3), 4);
        p.brush(0, 0, 9, 9);
        p.box(0, 0, 0, 3, 3);
        due("one tile", p.count(3), 5);
        p.box(0, 0, 0, 4, 3);
        due("only tiles with a change", p.count(3), 6);
        p.box(0, 15, 11, 12, 8);
        due("the last tile", p.count(3), 7);
        p.undo(0);
        p.undo(0);
        due("tiles of both", p.count(3), 7);
        due("kept", p.count(1), 2);
        due("undone", p.count(2), 2);
        p.brush(0, 0, 0, 9);
        p.box(0, 15, 0, 15, 0);
        due("tiles of the undone go", p.count(3), 6);
        due("tiles of that act", p.undo(0), 1);
    }

    private static void promise15Unchanged() {
        RasterPainter p = Hand.withLayers(1);
        p.brush(0, 0, 9, 9);
        p.box(0, 0, 0, 4, 4);
        p.box(0, 8, 8, 9, 9);
        p.undo(0);
        p.box(0, 0, 0, 4, 4);
        p.flood(0, 1, 1, 0);
        Hand.stroke(p, 0, "move 2 2 line 4 4");
        due("unchanged acts aren't kept", p.count(1), 1);
        due("nor do they take what can be done again", p.count(2), 1);
        due("done again", p.undo(1), 1);
        p.brush(0, 0, 8, 9);
        p.box(0, 0, 0, 0, 0);
        due("changed ink alone is kept", p.count(1), 3);
        p.undo(0);
        due("ink undone", p.dot(0, 0, 0, 0), 9);
        p.brush(0, 0, -1, 9);
        p.flood(0, 0, 0, 0);
        due("wiping is kept", p.count(1), 3);
        p.undo(0);
        due("wiping undone", p.told(0, 3), 29);
    }

    private static void promise15Ten() {
        RasterPainter p = Hand.withLayers(1);
        for (int i = 0; i < 13; i++) {
            p.box(0, i, 0, i, 0);
            due("kept", p.count(1), Math.min(i + 1, 10));
        }
        for (int i = 0; i < 10; i++) {
            due("undo " + i, p.undo(0), 1);
            due("left " + i, p.told(0, 3), 12 - i);
        }
        due("the oldest went", p.undo(0), Hand.STATE);
        due("they stay painted", Hand.coveredRow(p, 0, 0), 0b111);
        for (int i = 0; i < 10; i++) {
            due("again " + i, p.undo(1), 1);
        }
        due("all again", Hand.coveredRow(p, 0, 0), 0x1fff);
        due("no more", p.undo(1), Hand.STATE);
        p.box(0, 15, 11, 15, 11);
        due("still ten", p.count(1), 10);
        p.box(0, 15, 11, 15, 11);
        due("ten, by an unchanged one", p.count(3), 10);
        due("the latest of ten", p.undo(0), 1);
        due("is the latest", p.dot(0, 15, 11, 1), 0);
        for (int i = 1; i < 10; i++) {
            due("the one before", p.undo(0), 1);
            due("is gone", p.dot(0, 13 - i, 0, 1), 0);
            due("the one before that is not", p.dot(0, 12 - i, 0, 1), 255);
        }
        due("one more went", Hand.coveredRow(p, 0, 0), 0b1111);
    }

    private static void promise15Again() {
        RasterPainter p = Hand.withLayers(1);
        p.brush(0, 0, 1, 9);
        p.box(0, 0, 0, 0, 0);
        p.brush(0, 0, 2, 9);
        p.box(0, 0, 0, 0, 0);
        p.brush(0, 0, 3, 9);
        p.box(0, 0, 0, 0, 0);
        p.undo(0);
        p.undo(0);
        due("undone to 1", p.dot(0, 0, 0, 0), 1);
        p.undo(1);
        due("the latest undone one", p.dot(0, 0, 0, 0), 2);
        p.undo(0);
        p.brush(0, 0, 4, 9);
        p.box(0, 0, 0, 0, 0);
        due("another act is kept", p.undo(1), Hand.STATE);
        due("and stands", p.dot(0, 0, 0, 0), 4);
        p.undo(0);
        due("over the first", p.dot(0, 0, 0, 0), 1);
        p.mask(5, 5, 6, 6, 0);
        p.undo(1);
        due("the mask does not matter", p.dot(0, 0, 0, 0), 4);
    }

    private static void promise15AfterLayers() {
        for (int way = 0; way < 3; way++) {
            RasterPainter p = Hand.withLayers(2);
            p.box(0, 0, 0, 0, 0);
            p.box(1, 0, 0, 0, 0);
            p.undo(0);
            if (way == 0) {
                p.layer(0, 0, 0);
            } else if (way == 1) {
                p.drop(1);
            } else {
                p.move(0, 0);
            }
            due("no act to undo", p.undo(0), Hand.STATE);
            due("none to do again", p.undo(1), Hand.STATE);
        }
    }
}
