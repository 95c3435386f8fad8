import java.util.ArrayList;
import java.util.HashSet;
import java.util.List;
import java.util.Set;
import java.util.regex.Matcher;
import java.util.regex.Pattern;

/**
 * The document once more, written for plainness alone and otherwise than the program:
 * whole layers are kept for undo, sets are sets, texts are read by patterns.
 */
final class SlowPainter {
    static final int BAD = -2;

    private static final class Layer {
        int mode;
        int figure;
        int opacity;
        int[][] dots = new int[192][2];

        Layer twin() {
            Layer t = new Layer();
            t.mode = mode;
            t.figure = figure;
            t.opacity = opacity;
            t.dots = dotsNow();
            return t;
        }

        int[][] dotsNow() {
            int[][] now = new int[192][];
            for (int i = 0; i < 192; i++) {
                now[i] = dots[i].clone();
            }
            return now;
        }
    }

    private static final class Act {
        final int layer;
        final int[][] before;
        final int[][] after;
        final int tiles;

        Act(int layer, int[][] before, int[][] after) {
            this.layer = layer;
            this.before = before;
            this.after = after;
            Set<Integer> changed = new HashSet<>();
            for (int y = 0; y < 12; y++) {
                for (int x = 0; x < 16; x++) {
                    int[] a = before[16 * y + x];
                    int[] b = after[16 * y + x];
                    if (a[0] != b[0] || a[1] != b[1]) {
                        changed.add(100 * (y / 4) + x / 4);
                    }
                }
            }
            tiles = changed.size();
        }
    }

    private static final class World {
        List<Layer> layers = new ArrayList<>();
        int paper = 255;
        Set<Integer> mask = new HashSet<>();
        int kind = 0;
        int radius = 1;
        int ink = 0;
        int flow = 9;
        List<Act> acts = new ArrayList<>();
        List<Act> undone = new ArrayList<>();

        World twin() {
            World t = new World();
            for (Layer l : layers) {
                t.layers.add(l.twin());
            }
            t.paper = paper;
            t.mask = new HashSet<>(mask);
            t.kind = kind;
            t.radius = radius;
            t.ink = ink;
            t.flow = flow;
            t.acts = new ArrayList<>(acts);
            t.undone = new ArrayList<>(undone);
            return t;
        }
    }

    private World w = new World();
    private World image = null;
    private String tape = "";
    private final int[][] sheets = new int[4][];
    private final int[] sorts = new int[4];

    private static boolean out(int v, int least, int most) {
        return v < least || v > most;
    }

    private boolean noLayer(int l) {
        return l < 0 || l >= w.layers.size();
    }

    private static boolean noDot(int x, int y) {
        return out(x, 0, 15) || out(y, 0, 11);
    }

    private static boolean noLook(int mode, int figure, int opacity) {
        return out(mode, 0, 5) || out(figure, 0, 99) || out(opacity, 0, 255);
    }

    private void forgetActs() {
        w.acts.clear();
        w.undone.clear();
    }

    int layer(int mode, int figure, int opacity) {
        if (noLook(mode, figure, opacity)) {
            return BAD;
        }
        if (w.layers.size() == 4) {
            return -4;
        }
        Layer l = new Layer();
        l.mode = mode;
        l.figure = figure;
        l.opacity = opacity;
        w.layers.add(l);
        forgetActs();
        return w.layers.size() - 1;
    }

    int drop(int layer) {
        if (noLayer(layer)) {
            return BAD;
        }
        w.layers.remove(layer);
        forgetActs();
        return w.layers.size();
    }

    int move(int layer, int to) {
        if (noLayer(layer) || noLayer(to)) {
            return BAD;
        }
        w.layers.add(to, w.layers.remove(layer));
        forgetActs();
        return to;
    }

    int dress(int layer, int mode, int figure, int opacity) {
        if (layer == -1) {
            if (out(opacity, 0, 255)) {
                return BAD;
            }
            int paper = w.paper;
            w.paper = opacity;
            return paper;
        }
        if (noLayer(layer) || noLook(mode, figure, opacity)) {
            return BAD;
        }
        Layer l = w.layers.get(layer);
        int was = l.opacity;
        l.mode = mode;
        l.figure = figure;
        l.opacity = opacity;
        return was;
    }

    int told(int layer, int what) {
        if (noLayer(layer) || out(what, 0, 3)) {
            return BAD;
        }
        Layer l = w.layers.get(layer);
        int n = 0;
        for (int[] d : l.dots) {
            n += d[1] > 0 ? 1 : 0;
        }
        return new int[] {l.mode, l.figure, l.opacity, n}[what];
    }

    private static int makes(int mode, int figure, int b, int v) {
        int times = b * v / 255;
        int screen = 255 - (255 - b) * (255 - v) / 255;
        int burn = times < figure ? 0 : times - figure;
        int glow = screen + figure > 255 ? 255 : screen + figure;
        int apart = b > v ? b - v : v - b;
        return new int[] {v, times, screen, burn, glow, apart}[mode];
    }

    int taken(int layer, int k, int b) {
        if (noLayer(layer) || out(k, 0, 5) || out(b, 0, 255)) {
            return BAD;
        }
        Layer l = w.layers.get(layer);
        boolean fits = k == 0 || k == l.mode || k == 1 && l.mode == 3 || k == 2 && l.mode == 4;
        return fits ? makes(l.mode, l.figure, b, 200) : -13;
    }

    private static int seen(List<Layer> layers, int paper, int dot) {
        int b = paper;
        for (Layer l : layers) {
            int e = l.dots[dot][1] * l.opacity / 255;
            b += (makes(l.mode, l.figure, b, l.dots[dot][0]) - b) * e / 255;
        }
        return b;
    }

    private int seen(int dot) {
        return seen(w.layers, w.paper, dot);
    }

    int dot(int layer, int x, int y, int what) {
        if (noDot(x, y)) {
            return BAD;
        }
        if (layer == -1) {
            return what == 0 ? seen(16 * y + x) : BAD;
        }
        return noLayer(layer) || out(what, 0, 1) ? BAD : w.layers.get(layer).dots[16 * y + x][what];
    }

    int brush(int kind, int radius, int ink, int flow) {
        if (out(kind, 0, 4) || out(radius, 0, 4) || out(ink, -1, 255) || out(flow, 0, 9)) {
            return BAD;
        }
        int was = 10 * w.kind + w.radius;
        w.kind = kind;
        w.radius = radius;
        w.ink = ink;
        w.flow = flow;
        return was;
    }

    private int touchOf(int dx, int dy) {
        int d = dx * dx + dy * dy;
        int r2 = w.radius * w.radius;
        int round = d > r2 ? 0 : 255;
        boolean square = dx >= -w.radius && dx <= w.radius && dy >= -w.radius && dy <= w.radius;
        float quotient = (float) d / (float) (r2 + 1);
        float rest = 1.0f - quotient;
        int soft = (int) ((float) round * rest);
        float air = (float) soft * (float) w.flow;
        air = air / 9.0f;
        boolean cross = square && (dx == 0 || dy == 0);
        return new int[] {round, soft, square ? 255 : 0, (int) air, cross ? 255 : 0}[w.kind];
    }

    int touch(int dx, int dy) {
        return out(dx, -9, 9) || out(dy, -9, 9) ? BAD : touchOf(dx, dy);
    }

    int feed(int n, int a, int b, int c, int d, int e) {
        int[] bytes = {a, b, c, d, e};
        boolean bad = out(n, 1, 5);
        for (int v : bytes) {
            bad |= out(v, 0, 255);
        }
        if (bad) {
            return BAD;
        }
        if (tape.length() + n > 60) {
            return -4;
        }
        for (int i = 0; i < n; i++) {
            tape += (char) bytes[i];
        }
        return tape.length();
    }

    private void colour(int[] dot, int by) {
        if (w.ink == -1) {
            dot[1] = dot[1] * (255 - by) / 255;
            dot[0] = dot[1] == 0 ? 0 : dot[0];
        } else if (by != 0) {
            dot[0] = dot[1] == 0 ? w.ink : dot[0] + (w.ink - dot[0]) * by / 255;
            dot[1] = dot[1] + (255 - dot[1]) * by / 255;
        }
    }

    private boolean free(int dot) {
        return w.mask.isEmpty() || w.mask.contains(dot);
    }

    private void stamp(Layer l, int x, int y) {
        for (int dot = 0; dot < 192; dot++) {
            if (free(dot)) {
                colour(l.dots[dot], touchOf(dot % 16 - x, dot / 16 - y));
            }
        }
    }

    /** Reads the stroke; the places it goes to, or one row {-1, fault}. */
    private static List<int[]> read(String text) {
        Pattern token = Pattern.compile("[ \n]*([a-z]+|[0-9]+|[^ \n])?");
        List<String> words = new ArrayList<>();
        List<Integer> starts = new ArrayList<>();
        Matcher m = token.matcher(text);
        int at = 0;
        while (at < text.length() && m.find(at) && m.group(1) != null) {
            words.add(m.group(1));
            starts.add(m.start(1));
            at = m.end();
        }
        words.add("");
        starts.add(text.length());
        List<int[]> places = new ArrayList<>();
        int i = 0;
        while (i == 0 || i < words.size() - 1) {
            String word = words.get(i);
            String wants = i == 0 ? word.equals("move") ? "xy" : "?"
                    : word.equals("line") ? "xy" : word.equals("across") ? "x"
                    : word.equals("down") ? "y" : word.equals("close") ? "" : "?";
            if (wants.equals("?")) {
                return fault(starts.get(i));
            }
            int[] place = i == 0 ? new int[2] : places.get(word.equals("close") ? 0 : places.size() - 1).clone();
            i++;
            for (char c : wants.toCharArray()) {
                String number = words.get(i);
                if (!number.matches("[0-9]{1,2}") || Integer.parseInt(number) > (c == 'x' ? 15 : 11)) {
                    return fault(starts.get(i));
                }
                place[c - 'x'] = Integer.parseInt(number);
                i++;
            }
            places.add(place);
        }
        return places;
    }

    private static List<int[]> fault(int at) {
        List<int[]> fault = new ArrayList<>();
        fault.add(new int[] {-1, at});
        return fault;
    }

    private void keepAct(int layer, int[][] before) {
        Act act = new Act(layer, before, w.layers.get(layer).dotsNow());
        if (act.tiles == 0) {
            return;
        }
        w.acts.add(act);
        w.undone.clear();
        if (w.acts.size() > 10) {
            w.acts.remove(0);
        }
    }

    int stroke(int layer) {
        if (noLayer(layer)) {
            return BAD;
        }
        List<int[]> places = read(tape);
        tape = "";
        if (places.get(0)[0] < 0) {
            return -100 - places.get(0)[1];
        }
        Layer l = w.layers.get(layer);
        int[][] before = l.dotsNow();
        stamp(l, places.get(0)[0], places.get(0)[1]);
        int stamps = 1;
        for (int i = 1; i < places.size(); i++) {
            int[] from = places.get(i - 1);
            int[] to = places.get(i);
            int n = Math.max(Math.abs(to[0] - from[0]), Math.abs(to[1] - from[1]));
            for (int k = 1; k <= n; k++) {
                int x = from[0] + Math.floorDiv(2 * k * (to[0] - from[0]) + n, 2 * n);
                int y = from[1] + Math.floorDiv(2 * k * (to[1] - from[1]) + n, 2 * n);
                stamp(l, x, y);
                stamps++;
            }
        }
        keepAct(layer, before);
        return stamps;
    }

    private static Set<Integer> boxOf(int x, int y, int u, int v) {
        Set<Integer> dots = new HashSet<>();
        for (int dot = 0; dot < 192; dot++) {
            int a = dot % 16;
            int b = dot / 16;
            boolean across = a >= x && a <= u || a >= u && a <= x;
            boolean down = b >= y && b <= v || b >= v && b <= y;
            if (across && down) {
                dots.add(dot);
            }
        }
        return dots;
    }

    private static boolean beside(int a, int b) {
        return Math.abs(a % 16 - b % 16) + Math.abs(a / 16 - b / 16) == 1;
    }

    private static boolean anyBeside(Set<Integer> dots, int dot) {
        return dot % 16 > 0 && dots.contains(dot - 1) || dot % 16 < 15 && dots.contains(dot + 1)
                || dots.contains(dot - 16) || dots.contains(dot + 16);
    }

    private Set<Integer> region(int layer, int x, int y, int t) {
        int[][] dots = w.layers.get(layer).dots;
        int[] first = dots[16 * y + x];
        Set<Integer> region = new HashSet<>();
        region.add(16 * y + x);
        boolean grows = true;
        while (grows) {
            grows = false;
            for (int dot = 0; dot < 192; dot++) {
                boolean like = Math.abs(dots[dot][0] - first[0]) <= t && Math.abs(dots[dot][1] - first[1]) <= t;
                if (like && anyBeside(region, dot)) {
                    grows |= region.add(dot);
                }
            }
        }
        return region;
    }

    private int fill(int layer, Set<Integer> dots) {
        Layer l = w.layers.get(layer);
        int[][] before = l.dotsNow();
        int n = 0;
        for (int dot : dots) {
            if (free(dot)) {
                colour(l.dots[dot], 255);
                n++;
            }
        }
        keepAct(layer, before);
        return n;
    }

    int box(int layer, int x, int y, int u, int v) {
        return noLayer(layer) || noDot(x, y) || noDot(u, v) ? BAD : fill(layer, boxOf(x, y, u, v));
    }

    int flood(int layer, int x, int y, int t) {
        return noLayer(layer) || noDot(x, y) || out(t, 0, 255) ? BAD : fill(layer, region(layer, x, y, t));
    }

    int undo(int what) {
        if (out(what, 0, 1)) {
            return BAD;
        }
        List<Act> from = what == 0 ? w.acts : w.undone;
        if (from.isEmpty()) {
            return -3;
        }
        Act act = from.remove(from.size() - 1);
        (what == 0 ? w.undone : w.acts).add(act);
        Layer l = w.layers.get(act.layer);
        l.dots = what == 0 ? act.before : act.after;
        l.dots = l.dotsNow();
        return act.tiles;
    }

    private int join(Set<Integer> dots, int how) {
        if (how == 0) {
            w.mask = new HashSet<>(dots);
        } else if (how == 1) {
            w.mask.addAll(dots);
        } else if (how == 2) {
            w.mask.removeAll(dots);
        } else {
            w.mask.retainAll(dots);
        }
        return w.mask.size();
    }

    int mask(int x, int y, int u, int v, int how) {
        return noDot(x, y) || noDot(u, v) || out(how, 0, 3) ? BAD : join(boxOf(x, y, u, v), how);
    }

    int wand(int layer, int x, int y, int t, int how) {
        boolean bad = noLayer(layer) || noDot(x, y) || out(t, 0, 255) || out(how, 0, 3);
        return bad ? BAD : join(region(layer, x, y, t), how);
    }

    int grow(int what) {
        if (out(what, 0, 2)) {
            return BAD;
        }
        Set<Integer> others = boxOf(0, 0, 15, 11);
        others.removeAll(w.mask);
        if (what == 2) {
            w.mask = others;
            return others.size();
        }
        Set<Integer> growing = what == 0 ? w.mask : others;
        Set<Integer> grown = new HashSet<>(growing);
        for (int dot = 0; dot < 192; dot++) {
            for (int other : growing) {
                if (beside(dot, other)) {
                    grown.add(dot);
                }
            }
        }
        if (what == 0) {
            w.mask = grown;
        } else {
            w.mask.removeAll(grown);
        }
        return w.mask.size();
    }

    int masked(int y) {
        if (out(y, 0, 11)) {
            return BAD;
        }
        int bits = 0;
        for (int dot : w.mask) {
            bits += dot / 16 == y ? 1 << dot % 16 : 0;
        }
        return bits;
    }

    int dither(int way, int y) {
        if (out(way, 0, 1) || out(y, 0, 11)) {
            return BAD;
        }
        String[] rows = {"0 8 2 10", "12 4 14 6", "3 11 1 9", "15 7 13 5"};
        // room round the picture takes what goes outside
        int[][] value = new int[14][18];
        int bits = 0;
        for (int b = 0; b <= y; b++) {
            for (int a = 0; a < 16; a++) {
                int seen = seen(16 * b + a);
                int got = seen + value[b][a + 1];
                int left = got >= 128 ? got - 255 : got;
                value[b][a + 2] += 7 * left / 16;
                value[b + 1][a] += 3 * left / 16;
                value[b + 1][a + 1] += 5 * left / 16;
                value[b + 1][a + 2] += left / 16;
                boolean spread = got >= 128;
                boolean pattern = seen > 16 * Integer.parseInt(rows[b % 4].split(" ")[a % 4]) + 7;
                if (b == y && (way == 0 ? spread : pattern)) {
                    bits += 1 << a;
                }
            }
        }
        return bits;
    }

    int areas(int what) {
        if (out(what, 0, 2)) {
            return BAD;
        }
        Set<Integer> left = boxOf(0, 0, 15, 11);
        int count = 0;
        int greatest = 0;
        int seenOf = 0;
        for (int start = 0; start < 192; start++) {
            if (!left.contains(start)) {
                continue;
            }
            Set<Integer> area = new HashSet<>();
            area.add(start);
            boolean grows = true;
            while (grows) {
                grows = false;
                for (int dot = 0; dot < 192; dot++) {
                    if (seen(dot) == seen(start) && anyBeside(area, dot)) {
                        grows |= area.add(dot);
                    }
                }
            }
            left.removeAll(area);
            count++;
            if (area.size() > greatest) {
                greatest = area.size();
                seenOf = seen(start);
            }
        }
        return new int[] {count, greatest, seenOf}[what];
    }

    /** The layers as they would be. */
    private List<Layer> sprayedLayers(int layer, int seed, int n) {
        List<Layer> layers = new ArrayList<>(w.layers);
        Layer l = layers.get(layer).twin();
        layers.set(layer, l);
        int z = seed;
        for (int i = 0; i < n; i++) {
            z = z * 1103515245 + 12345;
            int x = (z >>> 9) % 16;
            z = z * 1103515245 + 12345;
            int y = (z >>> 9) % 12;
            stamp(l, x, y);
        }
        return layers;
    }

    int sprayed(int layer, int seed, int n) {
        if (noLayer(layer) || out(n, 0, 30)) {
            return BAD;
        }
        List<Layer> then = sprayedLayers(layer, seed, n);
        int otherwise = 0;
        for (int dot = 0; dot < 192; dot++) {
            otherwise += seen(dot) != seen(then, w.paper, dot) ? 1 : 0;
        }
        return otherwise;
    }

    int chance(int layer, int seed, int m, int x, int y, int part) {
        if (noLayer(layer) || out(m, 1, 10) || noDot(x, y) || out(part, 0, 1)) {
            return BAD;
        }
        int above = 0;
        for (int i = 0; i < m; i++) {
            above += seen(16 * y + x) != seen(sprayedLayers(layer, seed + i, 4), w.paper, 16 * y + x) ? 1 : 0;
        }
        int below = m;
        for (int d = 10; d > 1; d--) {
            if (above % d == 0 && below % d == 0) {
                above /= d;
                below /= d;
            }
        }
        return part == 0 ? above : below;
    }

    private static boolean allSo(int[] sheet, List<Layer> layers, int paper, int y) {
        for (int x = 0; x < sheet.length; x++) {
            if (seen(layers, paper, 16 * y + x) != sheet[x]) {
                return false;
            }
        }
        return true;
    }

    int tells(int sheet, int y, int what) {
        if (out(sheet, 0, 3) || out(y, 0, 11) || what < 0 || what > 1 && noLayer(what - 2)) {
            return BAD;
        }
        int[] row = sheets[sheet];
        if (row == null) {
            return -11;
        }
        if (row.length > 16) {
            return BAD;
        }
        if (what == 0) {
            for (int x = 0; x < row.length; x++) {
                if (row[x] != seen(16 * y + x)) {
                    return x;
                }
            }
            return -1;
        }
        int answer = 0;
        if (what == 1) {
            for (int paper = 0; paper < 256; paper++) {
                answer += allSo(row, w.layers, paper, y) ? 1 : 0;
            }
            return answer;
        }
        for (int mode = 0; mode < 6; mode++) {
            World then = w.twin();
            then.layers.get(what - 2).mode = mode;
            answer += allSo(row, then.layers, w.paper, y) ? 1 << mode : 0;
        }
        return answer;
    }

    int film(int sheet, int y) {
        if (out(sheet, 0, 3) || out(y, 0, 11)) {
            return BAD;
        }
        sorts[sheet] = 0;
        sheets[sheet] = new int[16];
        for (int x = 0; x < 16; x++) {
            sheets[sheet][x] = seen(16 * y + x);
        }
        return 16;
    }

    int image() {
        image = w.twin();
        return w.layers.size();
    }

    int back() {
        if (image == null) {
            return -3;
        }
        w = image.twin();
        return w.layers.size();
    }

    int count(int what) {
        if (out(what, 0, 7)) {
            return BAD;
        }
        int tiles = 0;
        for (Act a : w.acts) {
            tiles += a.tiles;
        }
        for (Act a : w.undone) {
            tiles += a.tiles;
        }
        return new int[] {w.layers.size(), w.acts.size(), w.undone.size(), tiles,
            w.mask.size(), w.flow, w.ink, tape.length()}[what];
    }

    int sheet(int sheet, int sort, int n) {
        if (out(sheet, 0, 3) || out(sort, -1, 1)) {
            return BAD;
        }
        if (sort == -1) {
            sheets[sheet] = null;
            return 1;
        }
        if (n > 40) {
            return BAD;
        }
        if (n < 0) {
            return -14;
        }
        sheets[sheet] = new int[n];
        sorts[sheet] = sort;
        return 1;
    }

    int put(int sheet, int i, int v) {
        if (out(sheet, 0, 3)) {
            return BAD;
        }
        if (sheets[sheet] == null) {
            return -11;
        }
        if (out(i, 0, sheets[sheet].length - 1)) {
            return -12;
        }
        sheets[sheet][i] = sorts[sheet] == 0 ? (short) v : v;
        return 1;
    }

    int copy(int sheet, int i, int other, int j, int n) {
        if (out(sheet, 0, 3) || out(other, 0, 3)) {
            return BAD;
        }
        if (sheets[sheet] == null || sheets[other] == null) {
            return -11;
        }
        if (sorts[sheet] != sorts[other]) {
            return -13;
        }
        long end = (long) i + n;
        long otherEnd = (long) j + n;
        if (i < 0 || j < 0 || n < 0 || end > sheets[sheet].length || otherEnd > sheets[other].length) {
            return -12;
        }
        int[] were = sheets[sheet].clone();
        for (int k = 0; k < n; k++) {
            sheets[other][j + k] = were[i + k];
        }
        return n;
    }
}
