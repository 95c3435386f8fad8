/** Painters in which much has been done, made always in the same way; the sheets tell row 3, so far as they can. */
final class Prepared {
    /** Where both have what the calls on sheets need. */
    static final int SHORTS = 0, INTS = 1, OTHER = 2, FILM = 3;

    private Prepared() {
    }

    /** Two layers, acts kept and undone, a mask, a tape, an image that is otherwise; sheet OTHER is missing. */
    static RasterPainter worked() {
        RasterPainter p = Hand.withLayers(2);
        p.brush(0, 0, 70, 9);
        p.box(0, 0, 0, 5, 5);
        p.box(1, 3, 3, 9, 9);
        p.image();
        p.dress(-1, 0, 0, 200);
        p.dress(1, 1, 10, 128);
        p.brush(3, 2, 100, 5);
        Hand.stroke(p, 0, "move 2 3 line 9 9");
        p.box(1, 8, 0, 9, 11);
        p.flood(0, 15, 11, 3);
        p.undo(0);
        p.mask(2, 2, 9, 9, 0);
        Hand.feed(p, "move 5 5 close ");
        p.film(FILM, 3);
        p.sheet(SHORTS, 0, 5);
        p.copy(FILM, 0, SHORTS, 0, 5);
        p.sheet(INTS, 1, 5);
        for (int x = 0; x < 5; x++) {
            p.put(INTS, x, p.dot(-1, x, 3, 0));
        }
        return p;
    }

    /** All that can be full is full: layers, acts, the tape, the mask, sheets; sheet OTHER is of 17 shorts. */
    static RasterPainter crowded() {
        RasterPainter p = Hand.withLayers(4);
        for (int i = 0; i < 11; i++) {
            p.brush(1, 4, 20 * i, 9);
            p.box(i % 4, i, i, i + 3, 11);
        }
        p.image();
        p.brush(2, 3, -1, 7);
        p.box(0, 2, 2, 9, 9);
        Hand.feed(p, "move 0 0 line 15 11 close line 15 11 close close across   15");
        p.mask(0, 0, 15, 11, 0);
        p.film(FILM, 3);
        p.sheet(SHORTS, 0, 40);
        p.copy(FILM, 0, SHORTS, 0, 16);
        p.sheet(INTS, 1, 40);
        p.sheet(OTHER, 0, 17);
        p.copy(FILM, 0, OTHER, 0, 16);
        return p;
    }
}
