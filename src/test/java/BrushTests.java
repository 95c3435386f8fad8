/** Promises 9 to 12: the brush, the tape and strokes. */
final class BrushTests {
    private static final Check CHECK = new Check("BrushTests");

    private BrushTests() {
    }

    public static void main(String[] args) {
        promise9Brush();
        promise10Kinds();
        promise10Floats();
        promise10Air();
        promise11Feed();
        promise12Faults();
        promise12FaultOfBytes();
        promise12FaultsPaintNothing();
        promise12Stamps();
        promise12FullTape();
        promise12NoneOfTheLastTape();
        promise12Lines();
        promise12Paints();
        promise12Mask();
        promise12Edge();
        promise12Act();
        CHECK.close();
    }

    private static void due(String what, long got, long want) {
        CHECK.due(what, got, want);
    }

    private static void promise9Brush() {
        RasterPainter p = new RasterPainter();
        due("the first brush", p.brush(4, 3, 255, 0), 1);
        due("ink", p.count(6), 255);
        due("flow", p.count(5), 0);
        due("brush that was", p.brush(0, 0, -1, 9), 43);
        due("ink NONE", p.count(6), -1);
        due("brush that was then", p.brush(2, 4, 0, 5), 0);
        due("and then", p.brush(2, 4, 0, 5), 24);
    }

    private static void promise10Kinds() {
        RasterPainter p = new RasterPainter();
        due("first brush at its middle", p.touch(0, 0), 255);
        due("first brush beside", p.touch(-1, 0), 255);
        due("first brush across", p.touch(1, 1), 0);
        for (int radius = 0; radius <= 4; radius++) {
            for (int dx = -9; dx <= 9; dx++) {
                p = new RasterPainter();
                for (int dy = -9; dy <= 9; dy++) {
                    boolean round = dx * dx + dy * dy <= radius * radius;
                    boolean square = Math.abs(dx) <= radius && Math.abs(dy) <= radius;
                    p.brush(0, radius, 0, 0);
                    due("ROUND", p.touch(dx, dy), round ? 255 : 0);
                    p.brush(2, radius, 0, 0);
                    due("SQUARE", p.touch(dx, dy), square ? 255 : 0);
                    p.brush(4, radius, 0, 0);
                    due("CROSS", p.touch(dx, dy), square && (dx == 0 || dy == 0) ? 255 : 0);
                    p.brush(1, radius, 0, 0);
                    CHECK.holds("SOFT under ROUND", p.touch(dx, dy) > 0 == round);
                }
            }
        }
    }

    private static void promise10Floats() {
        RasterPainter p = new RasterPainter();
        p.brush(1, 3, 0, 9);
        // exact quotients would be 255, 229.5, 204, 127.5, 102, 51, 25.5
        int[][] due = {{0, 0, 255}, {1, 0, 229}, {1, 1, 204}, {1, 2, 127}, {2, 0, 153}, {0, 3, 25}};
        for (int[] d : due) {
            due("SOFT at " + d[0] + " " + d[1], p.touch(d[0], d[1]), d[2]);
        }
        // 1 less 0.8f is below 0.2: exact numbers would give 51
        due("SOFT is told by floats", p.touch(2, 2), 50);
        for (int radius = 0; radius <= 4; radius++) {
            p.brush(1, radius, 0, 9);
            for (int d = 0; d <= radius; d++) {
                float part = (float) (d * d) / (float) (radius * radius + 1);
                due("SOFT", p.touch(0, -d), (int) (255f * (1f - part)));
            }
        }
    }

    private static void promise10Air() {
        RasterPainter p = new RasterPainter();
        int[] due = {0, 28, 56, 85, 113, 141, 170, 198, 226, 255};
        for (int flow = 0; flow <= 9; flow++) {
            p.brush(3, 0, 0, flow);
            due("AIR by flow " + flow, p.touch(0, 0), due[flow]);
            due("AIR outside", p.touch(1, 0), 0);
        }
        p.brush(3, 3, 0, 5);
        // of SOFT's whole part 229: 229 * 5 / 9 is 127.2
        due("AIR beside", p.touch(1, 0), 127);
        due("AIR at the edge", p.touch(3, 0), 13);
    }

    private static void promise11Feed() {
        RasterPainter p = Hand.withLayers(1);
        due("feed 1", p.feed(1, 'm', 0, 0, 0, 0), 1);
        due("feed 2", p.feed(2, 'o', 'v', 'x', 0, 0), 3);
        due("feed 3", p.feed(3, 'e', '1', ' ', 'x', 0), 6);
        due("feed 4", p.feed(4, '2', 'd', 'o', 'w', 'x'), 10);
        due("feed 5", p.feed(5, 'n', '5', '\n', 255, 0), 15);
        due("bytes of the tape", p.count(7), 15);
        due("all came, in their order", p.stroke(0), -113);
        due("the tape is empty", p.count(7), 0);
        for (int i = 1; i <= 11; i++) {
            due("feed to 55", p.feed(5, 32, 32, 32, 32, 32), 5 * i);
        }
        due("feed to 59", p.feed(4, 32, 32, 32, 32, 32), 59);
        due("no room for 2", p.feed(2, 1, 1, 1, 1, 1), Hand.FULL);
        due("no room for 5", p.feed(5, 1, 1, 1, 1, 1), Hand.FULL);
        due("refused adds none", p.count(7), 59);
        due("feed to 60", p.feed(1, 33, 0, 0, 0, 0), 60);
        due("no room for 1", p.feed(1, 1, 0, 0, 0, 0), Hand.FULL);
        due("BAD before FULL", p.feed(1, 256, 0, 0, 0, 0), Hand.BAD);
        due("BAD n before FULL", p.feed(0, 0, 0, 0, 0, 0), Hand.BAD);
        due("the last byte came", p.stroke(0), -159);
    }

    private static void fault(String text, int place) {
        RasterPainter p = Hand.withLayers(1);
        due("fault of '" + text + "'", Hand.stroke(p, 0, text), -100 - place);
        due("tape behind fault of '" + text + "'", p.count(7), 0);
        due("no act by a fault", p.count(1), 0);
        due("nothing painted by a fault", p.told(0, 3), 0);
    }

    private static void promise12Faults() {
        fault("", 0);
        fault("   ", 3);
        fault("move", 4);
        fault("move ", 5);
        fault("move 1", 6);
        fault("move 1 \n ", 9);
        fault("line 1 1", 0);
        fault("close", 0);
        fault("7", 0);
        fault(" 7", 1);
        fault("mov 1 1", 0);
        fault("moves 1 1", 0);
        fault("moveline 1 1", 0);
        fault("movez 1 1", 0);
        fault("amove 1 1", 0);
        fault("move 1 1 closea", 9);
        fault("move 1 1 zclose", 9);
        fault("move move", 5);
        fault("move x 1", 5);
        fault("move 16 0", 5);
        fault("move 99 0", 5);
        fault("move 15 12", 8);
        fault("move 0 99", 7);
        fault("move 001 1", 5);
        fault("move 1 011", 7);
        fault("move 0000000000000000000000000000000000001 1", 5);
        fault("move 99999999999 1", 5);
        fault("move 1 1 move 2 2", 9);
        fault("move 1 1 7", 9);
        fault("move 1 1 jump", 9);
        fault("move 1 1 closed", 9);
        fault("move 1 1 closeclose", 9);
        fault("move 1 1 close3", 14);
        fault("move 1 1 close 3", 15);
        fault("move 1 1 line", 13);
        fault("move 1 1 line ", 14);
        fault("move 1 1 line 2", 15);
        fault("move 1 1 line 2 close", 16);
        fault("move 1 1 line x 2", 14);
        fault("move 1 1 line 16 2", 14);
        fault("move 1 1 line 2 12", 16);
        fault("move 1 1 across", 15);
        fault("move 1 1 across 16", 16);
        fault("move 1 1 across 115", 16);
        fault("move 1 1 across 5 6", 18);
        fault("move 1 1 down", 13);
        fault("move 1 1 down 12", 14);
        fault("move 1 1 down 011", 14);
        fault("move 1 1 down close", 14);
        fault("move 1 1 down 3 down 4 down 5 jump", 30);
        fault("move 1 1 line 16 1 jump", 14);
    }

    private static void promise12FaultOfBytes() {
        int[] wrong = {0, 1, 9, 11, 13, 31, 33, '-', '/', ':', '@', 'A', 'Z', '[', '_', '`', '{', 127, 128, 255};
        for (int b : wrong) {
            fault((char) b + "move 1 1", 0);
            fault("move" + (char) b + "1 1", 4);
            fault("move 1" + (char) b + "1", 6);
            fault("move 1 1" + (char) b, 8);
            fault("move 1 1 close" + (char) b + "close", 14);
        }
    }

    private static void promise12FaultsPaintNothing() {
        RasterPainter p = Hand.withLayers(1);
        p.box(0, 0, 0, 1, 1);
        p.undo(0);
        p.brush(2, 4, 50, 9);
        due("a late fault", Hand.stroke(p, 0, "move 5 5 line 9 9 close close x"), -130);
        due("paints nothing", p.told(0, 3), 0);
        due("keeps no act", p.count(1), 0);
        due("leaves what can be done again", p.undo(1), 1);
        due("the next stroke begins anew", Hand.stroke(p, 0, "move 5 5"), 1);
    }

    private static void promise12FullTape() {
        String long1 = "move 0 0 across 15 across 0 across 15 across 0 across 15 ";
        fault(long1 + "x", 57);
        fault(long1 + "  x", 59);
        fault(long1 + " 11", 58);
        stamps(long1 + "   ", 76);
        fault(long1.trim() + "down", 60);
        stamps("move 0 0 line 15 11 close line 15 11 close line 15 11  close", 91);
        stamps("move 0 0 line 15 11 close line 15 11 close close across   15", 76);
        fault("move 0 0 line 15 11 close line 15 11 close close close  down", 60);
        fault("move 0 0 line 15 11 close line 15 11 close close close line ", 60);
    }

    private static void promise12NoneOfTheLastTape() {
        String[] before = {"move 1 16 line 2 2", "movex  5 5 close", "move 1 1  close x"};
        for (String text : before) {
            RasterPainter p = Hand.withLayers(1);
            Hand.stroke(p, 0, text);
            due("behind '" + text + "'", Hand.stroke(p, 0, "move 1 1"), 1);
            Hand.stroke(p, 0, text);
            due("a word behind '" + text + "'", Hand.stroke(p, 0, "move"), -104);
            Hand.stroke(p, 0, text);
            due("a number behind '" + text + "'", Hand.stroke(p, 0, "move 1"), -106);
            Hand.stroke(p, 0, text);
            due("a blank behind '" + text + "'", Hand.stroke(p, 0, "move "), -105);
        }
    }

    private static void stamps(String text, int want) {
        RasterPainter p = Hand.withLayers(1);
        due("stamps of '" + text + "'", Hand.stroke(p, 0, text), want);
        due("tape behind '" + text + "'", p.count(7), 0);
    }

    private static void promise12Stamps() {
        stamps("move 3 4", 1);
        stamps("move3 4", 1);
        stamps("  move\n3\n\n4  ", 1);
        stamps("move 0 0", 1);
        stamps("move 15 11", 1);
        stamps("move 00 05", 1);
        stamps("move 3 4 line 3 4", 1);
        stamps("move 3 4 close", 1);
        stamps("move 3 4 close close", 1);
        stamps("move 3 4 across 3 down 4", 1);
        stamps("move 0 0 line 15 11", 16);
        stamps("move 15 11 line 0 0", 16);
        stamps("move 0 0 line 3 11", 12);
        stamps("move 0 0 across 5", 6);
        stamps("move 5 0 across 0", 6);
        stamps("move 0 0 down 11", 12);
        stamps("move 0 0 across 5 down 4 close", 15);
        stamps("move0 0across5down4close", 15);
        stamps("move 1 1 close line 5 5 close across 9", 17);
        stamps("move 9 9 line 8 8 close line 8 8 close", 5);
        stamps("move 0 0 across 15 across 0 across 15 across 0 across 15 ", 76);
    }

    private static RasterPainter drawn(String text) {
        RasterPainter p = Hand.withLayers(1);
        p.brush(0, 0, 9, 9);
        Hand.stroke(p, 0, text);
        return p;
    }

    private static void rows(String text, int... want) {
        RasterPainter p = drawn(text);
        for (int y = 0; y < 12; y++) {
            due("'" + text + "', row " + y, Hand.coveredRow(p, 0, y), y < want.length ? want[y] : 0);
        }
    }

    private static void promise12Lines() {
        rows("move 0 0 line 5 2", 0b000011, 0b001100, 0b110000);
        rows("move 5 2 line 0 0", 0b000011, 0b001100, 0b110000);
        rows("move 0 0 line 1 4", 0b01, 0b01, 0b10, 0b10, 0b10);
        rows("move 1 4 line 0 0", 0b01, 0b01, 0b10, 0b10, 0b10);
        rows("move 3 0 down 2", 0b1000, 0b1000, 0b1000);
        rows("move 3 2 across 0", 0, 0, 0b1111);
        rows("move 3 1 across 1 down 0", 0b0010, 0b1110);
        rows("move 0 0 across 3 down 3 close", 0b1111, 0b1010, 0b1100, 0b1000);
        rows("move 1 1", 0, 0b10);
    }

    private static void promise12Paints() {
        RasterPainter p = Hand.withLayers(1);
        p.brush(3, 0, 200, 5);
        Hand.stroke(p, 0, "move 4 4");
        due("ink at first", p.dot(0, 4, 4, 0), 200);
        due("cover at first", p.dot(0, 4, 4, 1), 141);
        p.brush(3, 0, 100, 5);
        Hand.stroke(p, 0, "move 4 4");
        // 200 - 100 * 141 / 255, 141 + 114 * 141 / 255
        due("ink mixed down", p.dot(0, 4, 4, 0), 145);
        due("cover grown", p.dot(0, 4, 4, 1), 204);
        p.brush(3, 0, 250, 1);
        Hand.stroke(p, 0, "move 4 4");
        // 145 + 105 * 28 / 255, 204 + 51 * 28 / 255
        due("ink mixed up", p.dot(0, 4, 4, 0), 156);
        due("cover grown little", p.dot(0, 4, 4, 1), 209);
        p.brush(3, 0, -1, 5);
        Hand.stroke(p, 0, "move 4 4");
        due("wiped cover", p.dot(0, 4, 4, 1), 93);
        due("wiping leaves ink", p.dot(0, 4, 4, 0), 156);
        p.brush(3, 0, 7, 0);
        Hand.stroke(p, 0, "move 4 4 line 5 5");
        due("cover 0 paints no ink", p.dot(0, 4, 4, 0), 156);
        due("cover 0 paints no ink on nothing", p.dot(0, 5, 5, 0), 0);
        p.brush(3, 0, -1, 9);
        Hand.stroke(p, 0, "move 4 4");
        due("wiped away: cover", p.dot(0, 4, 4, 1), 0);
        due("wiped away: ink", p.dot(0, 4, 4, 0), 0);
        p.brush(3, 0, 60, 5);
        Hand.stroke(p, 0, "move 8 8 line 9 8 close");
        due("stamped twice", p.dot(0, 8, 8, 1), 204);
        due("stamped once", p.dot(0, 9, 8, 1), 141);
    }

    private static void promise12Mask() {
        RasterPainter p = Hand.withLayers(1);
        p.mask(4, 4, 5, 4, 0);
        p.brush(0, 2, 9, 9);
        due("stamps through the mask", Hand.stroke(p, 0, "move 4 4 across 0"), 5);
        due("only the mask's dots", Hand.coveredRow(p, 0, 4), 0b110000);
        due("no others", p.told(0, 3), 2);
        due("stamps beside the mask", Hand.stroke(p, 0, "move 10 10"), 1);
        due("paint nothing", p.told(0, 3), 2);
        p.brush(2, 4, -1, 9);
        p.mask(4, 4, 4, 4, 0);
        Hand.stroke(p, 0, "move 4 4");
        due("wiped through the mask", Hand.coveredRow(p, 0, 4), 0b100000);
        p.mask(0, 0, 15, 11, 2);
        Hand.stroke(p, 0, "move 4 4");
        due("an empty mask frees all", p.told(0, 3), 0);
    }

    private static void promise12Edge() {
        RasterPainter p = Hand.withLayers(1);
        p.brush(2, 4, 9, 9);
        Hand.stroke(p, 0, "move 0 0");
        due("a stamp in the corner", p.told(0, 3), 25);
        Hand.stroke(p, 0, "move 15 11");
        due("a stamp in the other corner", p.told(0, 3), 50);
        due("nothing comes in from the other side", Hand.coveredRow(p, 0, 0), 0b11111);
    }

    private static void promise12Act() {
        RasterPainter p = Hand.withLayers(2);
        p.brush(0, 0, 9, 9);
        Hand.stroke(p, 1, "move 0 0 line 15 11 close");
        due("a stroke is one act", p.count(1), 1);
        due("of the layer that was told", p.told(0, 3), 0);
        due("undone whole", p.undo(0), 6);
        due("nothing is left", p.told(1, 3), 0);
    }
}
