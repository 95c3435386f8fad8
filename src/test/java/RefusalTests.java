/**
 * The refusals that are not of a number's bounds (RangeTests has those): no layers, FULL, STATE, -11 to -14;
 * and which of two refusals comes first where both would hold. Behind each Twins look at all the rest,
 * and behind the calls that only look, too.
 */
final class RefusalTests {
    private static final Check CHECK = new Check("RefusalTests");
    private static final int LEAST = Integer.MIN_VALUE, GREATEST = Integer.MAX_VALUE;
    private static final Twins BARE = new Twins(CHECK, "bare", RasterPainter::new);
    private static final Twins WORKED = new Twins(CHECK, "two layers", Prepared::worked);
    private static final Twins CROWDED = new Twins(CHECK, "four layers", Prepared::crowded);

    private RefusalTests() {
    }

    public static void main(String[] args) {
        promises3To8WithoutLayers();
        promises12To24WithoutLayers();
        promise2Full();
        promise7Unlike();
        promise11Full();
        promise12TapeStays();
        promise15State();
        promise15BadFirst();
        promise24Refusals();
        promise27State();
        promise29Refusals();
        promise30Refusals();
        promise31Refusals();
        promise31Order();
        looksChangeNothing(WORKED);
        looksChangeNothing(CROWDED);
        CHECK.close();
    }

    private static void promises3To8WithoutLayers() {
        BARE.refuse("drop", p -> p.drop(0), Hand.BAD);
        BARE.refuse("move", p -> p.move(0, 0), Hand.BAD);
        BARE.refuse("dress", p -> p.dress(0, 0, 0, 0), Hand.BAD);
        BARE.refuse("told", p -> p.told(0, 0), Hand.BAD);
        BARE.refuse("taken", p -> p.taken(0, 0, 0), Hand.BAD);
        BARE.refuse("dot", p -> p.dot(0, 0, 0, 0), Hand.BAD);
        BARE.answer("dot SEEN", p -> p.dot(-1, 0, 0, 0), 255);
        BARE.answer("dress PAPER", p -> p.dress(-1, 0, 0, 0), 255);
    }

    private static void promises12To24WithoutLayers() {
        BARE.refuse("stroke", p -> p.stroke(0), Hand.BAD);
        BARE.refuse("box", p -> p.box(0, 0, 0, 0, 0), Hand.BAD);
        BARE.refuse("flood", p -> p.flood(0, 0, 0, 0), Hand.BAD);
        BARE.refuse("wand", p -> p.wand(0, 0, 0, 0, 0), Hand.BAD);
        BARE.refuse("sprayed", p -> p.sprayed(0, 0, 0), Hand.BAD);
        BARE.refuse("chance", p -> p.chance(0, 0, 1, 0, 0, 0), Hand.BAD);
        BARE.refuse("tells of a layer", p -> p.tells(0, 0, 2), Hand.BAD);
    }

    private static void promise2Full() {
        CROWDED.refuse("a fifth layer", p -> p.layer(0, 0, 0), Hand.FULL);
        CROWDED.refuse("a fifth layer, all at their most", p -> p.layer(5, 99, 255), Hand.FULL);
        CROWDED.refuse("BAD mode before FULL", p -> p.layer(6, 0, 0), Hand.BAD);
        CROWDED.refuse("BAD figure before FULL", p -> p.layer(0, 100, 0), Hand.BAD);
        CROWDED.refuse("BAD opacity before FULL", p -> p.layer(0, 0, 256), Hand.BAD);
        WORKED.answer("a third layer", p -> p.layer(0, 0, 0), 2);
    }

    private static void promise7Unlike() {
        boolean[][] isUnder = {
            {true, false, false, false, false, false},
            {true, true, false, false, false, false},
            {true, false, true, false, false, false},
            {true, true, false, true, false, false},
            {true, false, true, false, true, false},
            {true, false, false, false, false, true}};
        for (int mode = 0; mode < 6; mode++) {
            int worn = mode;
            Twins dressed = new Twins(CHECK, "mode " + mode, () -> dressed(worn));
            for (int k = 0; k < 6; k++) {
                int asked = k;
                if (isUnder[mode][k]) {
                    dressed.allow("taken for " + k, p -> p.taken(0, asked, 90));
                    dressed.answer("taken for " + k + " is as it is", p -> p.taken(0, asked, 90), taken(worn));
                } else {
                    dressed.refuse("taken for " + k, p -> p.taken(0, asked, 90), Hand.UNLIKE);
                    dressed.refuse("BAD b before -13", p -> p.taken(0, asked, 256), Hand.BAD);
                    dressed.refuse("BAD b below before -13", p -> p.taken(0, asked, -1), Hand.BAD);
                    dressed.refuse("BAD layer before -13", p -> p.taken(1, asked, 0), Hand.BAD);
                }
            }
        }
    }

    private static RasterPainter dressed(int mode) {
        RasterPainter p = Hand.withLayers(1);
        p.dress(0, mode, 7, 255);
        return p;
    }

    /** What a mode of figure 7 makes of 90 below and INK 200. */
    private static int taken(int mode) {
        int[] made = {200, 70, 220, 63, 227, 110};
        return made[mode];
    }

    private static RasterPainter withTape(int size) {
        RasterPainter p = Prepared.worked();
        p.stroke(0);
        Hand.feed(p, "move 1 1 line 2 2 line 3 3 line 4 4 line 5 5 line 6 6 close close".substring(0, size));
        return p;
    }

    private static void promise11Full() {
        for (int room = 0; room <= 5; room++) {
            int size = 60 - room;
            Twins taped = new Twins(CHECK, "a tape of " + size, () -> withTape(size));
            for (int n = 1; n <= 5; n++) {
                int fed = n;
                if (n <= room) {
                    taped.answer("feed of " + n, p -> p.feed(fed, 32, 32, 32, 32, 32), size + n);
                } else {
                    taped.refuse("feed of " + n, p -> p.feed(fed, 32, 32, 32, 32, 32), Hand.FULL);
                    taped.refuse("BAD byte before FULL", p -> p.feed(fed, 32, 32, 32, 32, 256), Hand.BAD);
                }
            }
            taped.refuse("BAD n before FULL", p -> p.feed(6, 32, 32, 32, 32, 32), Hand.BAD);
        }
    }

    private static void promise12TapeStays() {
        WORKED.refuse("BAD, the tape stays", p -> p.stroke(2), Hand.BAD);
        Twins faulty = new Twins(CHECK, "a faulty tape", RefusalTests::withFault);
        faulty.refuse("BAD before a FAULT", p -> p.stroke(2), Hand.BAD);
        faulty.refuse("BAD before a FAULT, layer -1", p -> p.stroke(-1), Hand.BAD);
        faulty.answer("the FAULT", p -> p.stroke(1), -105);
    }

    private static RasterPainter withFault() {
        RasterPainter p = Prepared.worked();
        p.stroke(0);
        Hand.feed(p, "move 16 1");
        return p;
    }

    private static void promise15State() {
        BARE.refuse("none to undo", p -> p.undo(0), Hand.STATE);
        BARE.refuse("none to do again", p -> p.undo(1), Hand.STATE);
        CROWDED.refuse("none to do again", p -> p.undo(1), Hand.STATE);
        Twins undone = new Twins(CHECK, "all undone", RefusalTests::allUndone);
        undone.refuse("none left to undo", p -> p.undo(0), Hand.STATE);
        undone.answer("done again", p -> p.undo(1), 1);
    }

    private static RasterPainter allUndone() {
        RasterPainter p = Hand.withLayers(1);
        p.box(0, 0, 0, 0, 0);
        p.box(0, 0, 0, 9, 9);
        p.undo(0);
        p.undo(0);
        return p;
    }

    private static void promise15BadFirst() {
        BARE.refuse("undo 2: BAD before STATE", p -> p.undo(2), Hand.BAD);
        BARE.refuse("undo -1: BAD before STATE", p -> p.undo(-1), Hand.BAD);
    }

    private static void promise24Refusals() {
        int gone = Prepared.OTHER;
        WORKED.refuse("a missing sheet", p -> p.tells(gone, 0, 0), Hand.MISSING);
        WORKED.refuse("a missing sheet, PAPERS", p -> p.tells(gone, 11, 1), Hand.MISSING);
        WORKED.refuse("a missing sheet, MODES", p -> p.tells(gone, 0, 3), Hand.MISSING);
        WORKED.refuse("BAD y before -11", p -> p.tells(gone, 12, 0), Hand.BAD);
        WORKED.refuse("BAD y -1 before -11", p -> p.tells(gone, -1, 0), Hand.BAD);
        WORKED.refuse("BAD what before -11", p -> p.tells(gone, 0, 4), Hand.BAD);
        WORKED.refuse("BAD what -1 before -11", p -> p.tells(gone, 0, -1), Hand.BAD);
        for (int what = 0; what <= 5; what++) {
            int asked = what;
            CROWDED.refuse("17 numbers, what " + what, p -> p.tells(Prepared.OTHER, 0, asked), Hand.BAD);
            CROWDED.refuse("40 numbers, what " + what, p -> p.tells(Prepared.INTS, 0, asked), Hand.BAD);
            CROWDED.allow("16 numbers, what " + what, p -> p.tells(Prepared.FILM, 0, asked));
        }
    }

    private static void promise27State() {
        BARE.refuse("no image", RasterPainter::back, Hand.STATE);
        Twins undone = new Twins(CHECK, "no image", RefusalTests::allUndone);
        undone.refuse("back", RasterPainter::back, Hand.STATE);
        WORKED.answer("an image", RasterPainter::back, 2);
    }

    private static void promise29Refusals() {
        for (int sort = 0; sort <= 1; sort++) {
            int asked = sort;
            for (int sheet = 0; sheet < 4; sheet++) {
                int n = sheet;
                WORKED.refuse("n -1", p -> p.sheet(n, asked, -1), Hand.BELOW_ZERO);
                WORKED.refuse("n the least int", p -> p.sheet(n, asked, LEAST), Hand.BELOW_ZERO);
                WORKED.refuse("n 41", p -> p.sheet(n, asked, 41), Hand.BAD);
                WORKED.refuse("n the greatest int", p -> p.sheet(n, asked, GREATEST), Hand.BAD);
                WORKED.answer("n 0", p -> p.sheet(n, asked, 0), 1);
                WORKED.answer("n 40", p -> p.sheet(n, asked, 40), 1);
                WORKED.answer("missing, n -1", p -> p.sheet(n, -1, -1), 1);
                WORKED.answer("missing, n 41", p -> p.sheet(n, -1, 41), 1);
            }
            WORKED.refuse("BAD sheet before -14", p -> p.sheet(4, asked, -1), Hand.BAD);
            WORKED.refuse("BAD sheet -1 before -14", p -> p.sheet(-1, asked, -1), Hand.BAD);
        }
        WORKED.refuse("BAD sort before -14", p -> p.sheet(0, 2, -1), Hand.BAD);
        WORKED.refuse("BAD sort -2 before -14", p -> p.sheet(0, -2, -1), Hand.BAD);
        WORKED.refuse("BAD sheet, though it were to be missing", p -> p.sheet(4, -1, 0), Hand.BAD);
    }

    private static void promise30Refusals() {
        int gone = Prepared.OTHER;
        WORKED.refuse("a missing sheet", p -> p.put(gone, 0, 1), Hand.MISSING);
        WORKED.refuse("-11 before -12", p -> p.put(gone, -1, 1), Hand.MISSING);
        WORKED.refuse("-11 before -12 behind", p -> p.put(gone, 40, 1), Hand.MISSING);
        WORKED.refuse("BAD before -12", p -> p.put(4, -1, 1), Hand.BAD);
        WORKED.refuse("BAD -1 before -12", p -> p.put(-1, 99, 1), Hand.BAD);
        int[] outside = {-1, 5, LEAST, GREATEST};
        for (int i : outside) {
            WORKED.refuse("place " + i + " of 5 shorts", p -> p.put(Prepared.SHORTS, i, 1), Hand.OUTSIDE);
            WORKED.refuse("place " + i + " of 5 ints", p -> p.put(Prepared.INTS, i, 1), Hand.OUTSIDE);
        }
        WORKED.answer("the last of 5", p -> p.put(Prepared.SHORTS, 4, 1), 1);
        WORKED.answer("the first of 5", p -> p.put(Prepared.SHORTS, 0, 1), 1);
        CROWDED.answer("the last of 40", p -> p.put(Prepared.INTS, 39, 1), 1);
        CROWDED.refuse("behind 40", p -> p.put(Prepared.INTS, 40, 1), Hand.OUTSIDE);
    }

    private static void promise31Refusals() {
        int shorts = Prepared.SHORTS;
        int film = Prepared.FILM;
        // 5 shorts and 16 shorts
        int[][] outside = {{-1, 0, 1}, {0, -1, 1}, {5, 0, 1}, {0, 16, 1}, {4, 0, 2}, {0, 15, 2}, {0, 0, 6},
            {0, 12, 5}, {1, 0, 5}, {0, 0, -1}, {5, 16, -1}, {3, 3, LEAST}, {3, 3, GREATEST}, {LEAST, 0, 1},
            {GREATEST, 0, 1}, {0, LEAST, 1}, {0, GREATEST, 1}, {GREATEST, 0, GREATEST}, {LEAST, 0, LEAST},
            {-1, 0, 0}, {0, -1, 0}, {6, 0, 0}, {0, 17, 0}};
        for (int[] o : outside) {
            WORKED.refuse("copy from " + o[0] + " to " + o[1] + " of " + o[2],
                    p -> p.copy(shorts, o[0], film, o[1], o[2]), Hand.OUTSIDE);
        }
        int[][] inside = {{0, 0, 5}, {0, 11, 5}, {4, 15, 1}, {0, 0, 0}, {4, 0, 1}, {5, 16, 0}};
        for (int[] in : inside) {
            WORKED.answer("copy from " + in[0] + " to " + in[1] + " of " + in[2],
                    p -> p.copy(shorts, in[0], film, in[1], in[2]), in[2]);
        }
        CROWDED.answer("copy of 40 within itself", p -> p.copy(shorts, 0, shorts, 0, 40), 40);
        CROWDED.refuse("copy of 41 within itself", p -> p.copy(shorts, 0, shorts, 0, 41), Hand.OUTSIDE);
        CROWDED.refuse("copy to 1 of 40 within itself", p -> p.copy(shorts, 0, shorts, 1, 40), Hand.OUTSIDE);
    }

    private static void promise31Order() {
        int shorts = Prepared.SHORTS;
        int ints = Prepared.INTS;
        int gone = Prepared.OTHER;
        WORKED.refuse("a missing one", p -> p.copy(gone, 0, shorts, 0, 1), Hand.MISSING);
        WORKED.refuse("to a missing one", p -> p.copy(shorts, 0, gone, 0, 1), Hand.MISSING);
        WORKED.refuse("missing to itself", p -> p.copy(gone, 0, gone, 0, 0), Hand.MISSING);
        WORKED.refuse("of another sort", p -> p.copy(shorts, 0, ints, 0, 1), Hand.UNLIKE);
        WORKED.refuse("of another sort, none", p -> p.copy(ints, 0, shorts, 0, 0), Hand.UNLIKE);
        WORKED.refuse("BAD before -11", p -> p.copy(gone, 0, 4, 0, 1), Hand.BAD);
        WORKED.refuse("BAD before -11 of the other", p -> p.copy(-1, 0, gone, 0, 1), Hand.BAD);
        WORKED.refuse("BAD before -12", p -> p.copy(shorts, -1, 4, 0, 1), Hand.BAD);
        WORKED.refuse("BAD before -12 of the other", p -> p.copy(4, 0, shorts, -1, -1), Hand.BAD);
        WORKED.refuse("-11 before -13", p -> p.copy(gone, 0, ints, 0, 1), Hand.MISSING);
        WORKED.refuse("-11 before -12", p -> p.copy(gone, -1, shorts, 0, 1), Hand.MISSING);
        WORKED.refuse("-11 of the other before -12", p -> p.copy(shorts, 0, gone, 0, -1), Hand.MISSING);
        WORKED.refuse("-13 before -12", p -> p.copy(shorts, -1, ints, 0, 1), Hand.UNLIKE);
        WORKED.refuse("-13 before -12 of the other", p -> p.copy(ints, 0, shorts, 5, 1), Hand.UNLIKE);
        WORKED.refuse("-13 before -12 of n", p -> p.copy(ints, 0, shorts, 0, -1), Hand.UNLIKE);
    }

    private static void looksChangeNothing(Twins twins) {
        twins.look("told", p -> p.told(1, 3));
        twins.look("taken", p -> p.taken(1, 1, 90));
        twins.look("dot", p -> p.dot(1, 9, 9, 1));
        twins.look("dot SEEN", p -> p.dot(-1, 9, 9, 0));
        twins.look("touch", p -> p.touch(1, 1));
        twins.look("masked", p -> p.masked(5));
        twins.look("dither", p -> p.dither(0, 11));
        twins.look("dither by the pattern", p -> p.dither(1, 11));
        for (int what = 0; what < 3; what++) {
            int asked = what;
            twins.look("areas", p -> p.areas(asked));
        }
        twins.look("sprayed", p -> p.sprayed(1, 77, 30));
        twins.look("chance", p -> p.chance(1, 77, 10, 9, 9, 0));
        for (int what = 0; what < 4; what++) {
            int asked = what;
            twins.look("tells", p -> p.tells(Prepared.FILM, 3, asked));
        }
        for (int what = 0; what < 8; what++) {
            int asked = what;
            twins.look("count", p -> p.count(asked));
        }
    }
}
