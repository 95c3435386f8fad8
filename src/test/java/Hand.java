/** Common moves of the tests. */
final class Hand {
    static final int BAD = -2, STATE = -3, FULL = -4, MISSING = -11, OUTSIDE = -12, UNLIKE = -13, BELOW_ZERO = -14;

    private Hand() {
    }

    static RasterPainter withLayers(int n) {
        RasterPainter p = new RasterPainter();
        for (int i = 0; i < n; i++) {
            p.layer(0, 0, 255);
        }
        return p;
    }

    /** A layer in which column x has ink 10 x and whole cover; so is every row seen. */
    static RasterPainter withColumns() {
        RasterPainter p = withLayers(1);
        for (int x = 0; x < 16; x++) {
            p.brush(0, 0, 10 * x, 9);
            p.box(0, x, 0, x, 11);
        }
        return p;
    }

    /** Feeds a text in pieces of five bytes; the last answer. */
    static int feed(RasterPainter p, String text) {
        int answer = 0;
        for (int i = 0; i < text.length(); i += 5) {
            int n = Math.min(5, text.length() - i);
            int[] b = new int[5];
            for (int k = 0; k < n; k++) {
                b[k] = text.charAt(i + k);
            }
            answer = p.feed(n, b[0], b[1], b[2], b[3], b[4]);
        }
        return answer;
    }

    static int stroke(RasterPainter p, int layer, String text) {
        feed(p, text);
        return p.stroke(layer);
    }

    /** INK and COVER of some dots of a layer, as one number (few calls: an object has 512). */
    static long printOf(RasterPainter p, int layer) {
        long print = p.told(layer, 3);
        for (int k = 0; k < 8; k++) {
            int x = 2 * k + 1;
            int y = k + 2;
            print = print * 1000003 + p.dot(layer, x, y, 0) * 256L + p.dot(layer, x, y, 1);
        }
        return print;
    }

    /** Much of what can be asked of the state without changing it, as one number. */
    static long printOf(RasterPainter p) {
        long print = 3;
        for (int what = 0; what < 8; what++) {
            print = print * 31 + p.count(what);
        }
        for (int layer = 0; layer < p.count(0); layer++) {
            print = print * 1000003 + printOf(p, layer);
            for (int what = 0; what < 3; what++) {
                print = print * 31 + p.told(layer, what);
            }
        }
        for (int y = 0; y < 12; y++) {
            print = print * 1000003 + p.masked(y) * 256L + p.dot(-1, y, y, 0);
        }
        return print * 31 + p.touch(1, 1);
    }

    /** The dots with COVER in row y of a layer, as bits by x. */
    static int coveredRow(RasterPainter p, int layer, int y) {
        int bits = 0;
        for (int x = 0; x < 16; x++) {
            if (p.dot(layer, x, y, 1) != 0) {
                bits |= 1 << x;
            }
        }
        return bits;
    }
}
