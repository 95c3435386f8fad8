/** Promises 29 to 31. */
final class HostTests {
    private static final Check CHECK = new Check("HostTests");

    private HostTests() {
    }

    public static void main(String[] args) {
        promise29Sheet();
        promise30Put();
        promise31Copy();
        promise31Itself();
        CHECK.close();
    }

    private static void due(String what, long got, long want) {
        CHECK.due(what, got, want);
    }

    private static void promise29Sheet() {
        RasterPainter p = new RasterPainter();
        p.dress(-1, 0, 0, 0);
        due("shorts", p.sheet(0, 0, 16), 1);
        due("all 0", p.tells(0, 0, 0), -1);
        due("ints", p.sheet(3, 1, 40), 1);
        due("the last item", p.put(3, 39, 5), 1);
        due("no more items", p.put(3, 40, 5), Hand.OUTSIDE);
        for (int i = 0; i < 16; i++) {
            p.put(0, i, 9);
        }
        due("made anew", p.sheet(0, 0, 16), 1);
        due("all 0 again", p.tells(0, 0, 0), -1);
        due("of size 0", p.sheet(0, 1, 0), 1);
        due("without items", p.put(0, 0, 0), Hand.OUTSIDE);
        due("missing", p.sheet(0, -1, 5), 1);
        due("is missing", p.put(0, 0, 0), Hand.MISSING);
        due("missing again", p.sheet(0, -1, -7), 1);
        due("n does not matter", p.sheet(0, -1, Integer.MAX_VALUE), 1);
        due("n does not matter at all", p.sheet(0, -1, Integer.MIN_VALUE), 1);
        due("others stay", p.put(3, 39, 5), 1);
    }

    private static void promise30Put() {
        RasterPainter p = Hand.withColumns();
        p.sheet(0, 1, 4);
        due("put", p.put(0, 1, 10), 1);
        due("put the last", p.put(0, 3, 30), 1);
        due("the third is still 0", p.tells(0, 0, 0), 2);
        due("put it", p.put(0, 2, 20), 1);
        due("all so", p.tells(0, 0, 0), -1);
        due("put over", p.put(0, 2, 21), 1);
        due("otherwise", p.tells(0, 0, 0), 2);
        due("an int is whole", p.put(0, 2, 20 - 65536), 1);
        due("otherwise still", p.tells(0, 0, 0), 2);
        p.sheet(1, 0, 3);
        p.put(1, 1, 10 + 65536);
        p.put(1, 2, 20 - 65536);
        due("of shorts the lowest 16 bits", p.tells(1, 0, 0), -1);
    }

    private static void promise31Copy() {
        RasterPainter p = Hand.withColumns();
        p.film(0, 0);
        p.sheet(1, 0, 5);
        due("copy", p.copy(0, 1, 1, 1, 3), 3);
        p.sheet(2, 0, 4);
        p.put(2, 3, 30);
        due("so far", p.tells(1, 0, 0), 4);
        due("copy the rest", p.copy(0, 4, 1, 4, 1), 1);
        due("all so", p.tells(1, 0, 0), -1);
        due("from elsewhere", p.copy(0, 5, 1, 0, 2), 2);
        due("otherwise", p.tells(1, 0, 0), 0);
        due("the other stays", p.tells(0, 0, 0), -1);
        due("none", p.copy(0, 16, 1, 5, 0), 0);
        due("none of none", p.copy(0, 0, 1, 0, 0), 0);
        p.sheet(3, 1, 2);
        p.sheet(2, 1, 2);
        p.put(2, 1, 10 + 65536);
        p.copy(2, 0, 3, 0, 2);
        due("ints stay whole", p.tells(3, 0, 0), 1);
        p.put(2, 1, 10);
        p.copy(2, 0, 3, 0, 2);
        due("ints", p.tells(3, 0, 0), -1);
    }

    private static void promise31Itself() {
        RasterPainter p = Hand.withColumns();
        p.sheet(0, 1, 4);
        p.put(0, 0, 10);
        p.put(0, 1, 20);
        p.put(0, 2, 30);
        due("up within itself", p.copy(0, 0, 0, 1, 3), 3);
        p.put(0, 0, 0);
        due("as they were", p.tells(0, 0, 0), -1);
        p.put(0, 0, 99);
        p.put(0, 1, 0);
        p.put(0, 2, 10);
        p.put(0, 3, 20);
        due("down within itself", p.copy(0, 1, 0, 0, 3), 3);
        p.put(0, 3, 30);
        due("as they were, down", p.tells(0, 0, 0), -1);
    }
}
