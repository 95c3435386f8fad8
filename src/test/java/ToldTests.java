/** Promises 24 to 28. */
final class ToldTests {
    private static final Check CHECK = new Check("ToldTests");

    private ToldTests() {
    }

    public static void main(String[] args) {
        promise24First();
        promise24Papers();
        promise24Modes();
        promise25Film();
        promise26Image();
        promise27Back();
        promise27Acts();
        promise27ActsOfLayers();
        promise27NotKept();
        promise28Count();
        CHECK.close();
    }

    private static void due(String what, long got, long want) {
        CHECK.due(what, got, want);
    }

    private static void tell(RasterPainter p, int sheet, int sort, int... numbers) {
        p.sheet(sheet, sort, numbers.length);
        for (int i = 0; i < numbers.length; i++) {
            p.put(sheet, i, numbers[i]);
        }
    }

    private static void promise24First() {
        RasterPainter p = Hand.withLayers(1);
        p.brush(0, 0, 40, 9);
        p.box(0, 2, 3, 2, 3);
        for (int sort = 0; sort <= 1; sort++) {
            tell(p, 1, sort, 255, 255, 40, 255);
            due("all so", p.tells(1, 3, 0), -1);
            due("otherwise in another row", p.tells(1, 4, 0), 2);
            tell(p, 1, sort, 255, 254, 41, 255);
            due("the first", p.tells(1, 3, 0), 1);
            tell(p, 1, sort, 0);
            due("the very first", p.tells(1, 3, 0), 0);
            tell(p, 1, sort);
            due("nothing told", p.tells(1, 3, 0), -1);
            tell(p, 1, sort, 255, 255, 40, 255, 255, 255, 255, 255, 255, 255, 255, 255, 255, 255, 255, 9);
            due("the last", p.tells(1, 3, 0), 15);
        }
        tell(p, 2, 1, 255, 255 + 65536);
        due("ints are whole", p.tells(2, 0, 0), 1);
        tell(p, 2, 0, 255, 255 + 65536);
        due("shorts are cut", p.tells(2, 0, 0), -1);
        tell(p, 2, 0, 255, -1);
        due("a negative short is none", p.tells(2, 0, 0), 1);
    }

    private static void promise24Papers() {
        RasterPainter p = new RasterPainter();
        tell(p, 0, 1, 255, 255);
        due("one paper", p.tells(0, 0, 1), 1);
        tell(p, 0, 1, 30, 30);
        due("another paper", p.tells(0, 0, 1), 1);
        tell(p, 0, 1, 30, 31);
        due("no paper", p.tells(0, 0, 1), 0);
        tell(p, 0, 1, 256);
        due("none such", p.tells(0, 0, 1), 0);
        tell(p, 0, 1);
        due("any paper", p.tells(0, 0, 1), 256);
        p.layer(0, 0, 255);
        p.brush(0, 0, 77, 9);
        p.box(0, 0, 0, 3, 0);
        tell(p, 0, 0, 77, 77, 77, 77);
        due("any paper below", p.tells(0, 0, 1), 256);
        tell(p, 0, 0, 77, 77, 77, 77, 0);
        due("one dot shows it", p.tells(0, 0, 1), 1);
        p.dress(0, 0, 0, 128);
        tell(p, 0, 0, 76);
        // b + (77 - b) * 128 / 255 is 76 of b 75 and 76
        due("half of it", p.tells(0, 0, 1), 2);
        due("PAPER stays", p.dot(-1, 9, 9, 0), 255);
    }

    private static void promise24Modes() {
        RasterPainter p = Hand.withLayers(2);
        p.dress(-1, 0, 0, 90);
        p.brush(0, 0, 200, 9);
        p.box(0, 2, 5, 2, 5);
        p.dress(0, 3, 20, 255);
        tell(p, 0, 0, 90, 90, 50);
        due("BURN", p.tells(0, 5, 2), 1 << 3);
        tell(p, 0, 0, 90, 90, 240);
        due("GLOW with its figure", p.tells(0, 5, 2), 1 << 4);
        tell(p, 0, 0, 90, 90, 110);
        due("APART", p.tells(0, 5, 2), 1 << 5);
        tell(p, 0, 0, 90, 90, 200);
        due("PLAIN", p.tells(0, 5, 2), 1);
        tell(p, 0, 0, 90, 90, 51);
        due("none", p.tells(0, 5, 2), 0);
        tell(p, 0, 0, 90, 91, 50);
        due("none, by another dot", p.tells(0, 5, 2), 0);
        tell(p, 0, 0, 90, 90);
        due("all that don't touch it", p.tells(0, 5, 2), 63);
        tell(p, 0, 0, 90, 90, 50);
        due("any of an empty layer", p.tells(0, 5, 3), 63);
        p.dress(0, 1, 0, 255);
        tell(p, 0, 0, 90, 90, 70);
        due("TIMES and BURN of figure 0", p.tells(0, 5, 2), 0b1010);
        p.dress(0, 1, 0, 0);
        tell(p, 0, 0, 90, 90, 90);
        due("any of opacity 0", p.tells(0, 5, 2), 63);
        due("the mode stays", p.told(0, 0), 1);
    }

    private static void promise25Film() {
        RasterPainter p = Hand.withLayers(1);
        p.brush(1, 4, 40, 9);
        Hand.stroke(p, 0, "move 4 4");
        due("film of a missing one", p.film(2, 4), 16);
        due("it tells the row", p.tells(2, 4, 0), -1);
        due("no other row", p.tells(2, 5, 0), 0);
        due("16 items", p.put(2, 15, 0), 1);
        due("no more", p.put(2, 16, 0), Hand.OUTSIDE);
        p.sheet(3, 0, 40);
        due("shorts", p.copy(2, 0, 3, 0, 16), 16);
        p.sheet(3, 1, 40);
        due("not ints", p.copy(2, 0, 3, 0, 16), Hand.UNLIKE);
        due("film of ints", p.film(3, 0), 16);
        due("are shorts now", p.copy(2, 0, 3, 0, 16), 16);
        due("16 now", p.put(3, 16, 0), Hand.OUTSIDE);
        for (int y = 0; y < 12; y++) {
            p.film(0, y);
            due("film of row " + y, p.tells(0, y, 0), -1);
        }
        p.film(1, 4);
        p.box(0, 0, 4, 0, 4);
        due("a film stays as it was taken", p.tells(1, 4, 0), 0);
        p.undo(0);
        due("and tells again", p.tells(1, 4, 0), -1);
    }

    private static void promise26Image() {
        RasterPainter p = new RasterPainter();
        due("image of nothing", p.image(), 0);
        p.layer(0, 0, 255);
        p.layer(1, 0, 255);
        due("image", p.image(), 2);
        due("nothing is changed", p.count(0), 2);
        p.drop(0);
        due("image anew", p.image(), 1);
        p.layer(2, 0, 0);
        due("the latest image", p.back(), 1);
        due("its layer", p.told(0, 0), 1);
    }

    private static void promise27Back() {
        RasterPainter p = Hand.withLayers(2);
        due("no image", p.back(), Hand.STATE);
        due("no image, nothing changed", p.count(0), 2);
        p.brush(1, 3, 40, 5);
        Hand.stroke(p, 1, "move 4 4 line 9 9");
        p.dress(-1, 0, 0, 33);
        p.dress(0, 4, 44, 55);
        p.mask(2, 2, 3, 3, 0);
        long before = Hand.printOf(p);
        p.image();
        p.dress(-1, 0, 0, 200);
        p.dress(0, 1, 2, 3);
        p.brush(2, 1, -1, 2);
        p.grow(2);
        p.box(1, 0, 0, 15, 11);
        p.box(0, 0, 0, 15, 11);
        p.move(0, 1);
        p.layer(0, 0, 9);
        p.layer(0, 0, 9);
        due("back", p.back(), 2);
        CHECK.holds("all is as it was", before == Hand.printOf(p));
        p.drop(1);
        p.drop(0);
        due("back again", p.back(), 2);
        CHECK.holds("all is as it was, again", before == Hand.printOf(p));
        p.mask(0, 0, 15, 11, 2);
        p.box(1, 0, 0, 3, 3);
        p.back();
        CHECK.holds("what comes behind back does not reach the image", before == Hand.printOf(p));
        due("kind and radius", p.brush(0, 0, 0, 0), 13);
    }

    private static void promise27Acts() {
        RasterPainter p = Hand.withLayers(1);
        p.box(0, 0, 0, 0, 0);
        p.box(0, 4, 0, 8, 0);
        p.box(0, 12, 0, 12, 0);
        p.undo(0);
        p.image();
        p.undo(0);
        p.undo(0);
        p.brush(0, 0, 99, 9);
        p.box(0, 0, 0, 15, 11);
        due("another act", p.undo(1), Hand.STATE);
        p.layer(0, 0, 0);
        due("back", p.back(), 1);
        due("acts", p.count(1), 2);
        due("undone", p.count(2), 1);
        due("tiles", p.count(3), 4);
        due("done again", p.undo(1), 1);
        due("its dot", p.dot(0, 12, 0, 1), 255);
        p.undo(0);
        due("undone", p.undo(0), 2);
        due("its dot", p.dot(0, 4, 0, 1), 0);
        due("the dot of the first", p.dot(0, 0, 0, 1), 255);
        due("undone, the first", p.undo(0), 1);
        due("nothing left", p.told(0, 3), 0);
        p.back();
        due("back after undo", p.told(0, 3), 6);
        due("acts again", p.count(1), 2);
    }

    private static void promise27ActsOfLayers() {
        RasterPainter p = Hand.withLayers(3);
        p.brush(0, 0, 70, 9);
        p.box(2, 0, 0, 5, 5);
        p.brush(0, 0, 90, 9);
        p.box(2, 0, 0, 5, 5);
        p.box(1, 0, 0, 0, 0);
        p.undo(0);
        p.image();
        p.layer(0, 0, 0);
        p.brush(0, 0, 9, 9);
        for (int i = 0; i < 10; i++) {
            p.box(3, i, i, i, i);
        }
        p.back();
        due("done again in its layer", p.undo(1), 1);
        due("its ink", p.dot(1, 0, 0, 0), 90);
        p.undo(0);
        due("undone in its layer", p.dot(1, 0, 0, 1), 0);
        due("and the one before", p.undo(0), 4);
        due("the ink that was", p.dot(2, 5, 5, 0), 70);
        p.undo(1);
        due("the ink again", p.dot(2, 5, 5, 0), 90);
        p.undo(0);
        due("and the first", p.undo(0), 4);
        due("nothing then", p.dot(2, 5, 5, 0), 0);
    }

    private static void promise27NotKept() {
        RasterPainter p = Hand.withLayers(1);
        Hand.feed(p, "move 1 1");
        p.sheet(0, 0, 3);
        p.image();
        p.sheet(0, 1, 4);
        p.sheet(1, 1, 4);
        Hand.feed(p, " close");
        p.back();
        due("the tape isn't kept", p.count(7), 14);
        due("sheets aren't kept", p.put(0, 3, 0), 1);
        due("nor missing ones", p.put(1, 3, 0), 1);
        due("the tape goes on", p.stroke(0), 1);
        p.back();
        due("the tape does not come back", p.count(7), 0);
    }

    private static void promise28Count() {
        RasterPainter p = Hand.withLayers(3);
        p.brush(0, 0, 12, 3);
        p.box(0, 3, 3, 4, 4);
        p.box(0, 8, 8, 8, 8);
        p.box(0, 0, 11, 0, 11);
        p.undo(0);
        p.mask(0, 0, 4, 1, 0);
        Hand.feed(p, "move 1 1");
        int[] counts = {3, 2, 1, 6, 10, 3, 12, 8};
        for (int what = 0; what < 8; what++) {
            due("count " + what, p.count(what), counts[what]);
        }
    }
}
