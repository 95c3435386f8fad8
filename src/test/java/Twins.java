import java.util.ArrayList;
import java.util.List;

/**
 * Painters made alike: one of them is asked a call that must change nothing, and then it must answer a long
 * row of calls (some that only look, some that change) as its twin does, which was not asked it.
 */
final class Twins {
    /** Makes a painter, always in the same way; some 60 calls at most, since an object has 512. */
    interface Making {
        RasterPainter make();
    }

    interface Call {
        int on(RasterPainter p);
    }

    private final Check check;
    private final String name;
    private final Making making;
    private final List<Integer> due;

    Twins(Check check, String name, Making making) {
        this.check = check;
        this.name = name;
        this.making = making;
        due = answersOf(making.make());
    }

    /** The call is refused so, and nothing is changed by it. */
    void refuse(String what, Call call, int refusal) {
        RasterPainter p = making.make();
        check.due(name + ": " + what, call.on(p), refusal);
        check.due(name + ": behind " + what + ", the first answer that is otherwise", firstOtherwise(p), -1);
    }

    /** The call only looks: nothing is changed by it. */
    void look(String what, Call call) {
        RasterPainter p = making.make();
        call.on(p);
        check.due(name + ": behind " + what + ", the first answer that is otherwise", firstOtherwise(p), -1);
    }

    /** The call is answered so, whatever it changes. */
    void answer(String what, Call call, int want) {
        check.due(name + ": " + what, call.on(making.make()), want);
    }

    /** The call is not refused as BAD. */
    void allow(String what, Call call) {
        check.holds(name + ": " + what + " isn't BAD", call.on(making.make()) != Hand.BAD);
    }

    private int firstOtherwise(RasterPainter p) {
        List<Integer> got = answersOf(p);
        for (int i = 0; i < due.size(); i++) {
            if (!due.get(i).equals(got.get(i))) {
                return i;
            }
        }
        return -1;
    }

    private static List<Integer> answersOf(RasterPainter p) {
        List<Integer> answers = new ArrayList<>();
        addCounts(answers, p);
        addLayers(answers, p);
        addSeen(answers, p);
        addSheets(answers, p);
        addTape(answers, p);
        addActs(answers, p);
        answers.add(p.back());
        addCounts(answers, p);
        addLayers(answers, p);
        addActs(answers, p);
        answers.add(p.brush(0, 0, 0, 0));
        answers.add(p.dress(-1, 0, 0, 0));
        return answers;
    }

    private static void addCounts(List<Integer> answers, RasterPainter p) {
        for (int what = 0; what < 8; what++) {
            answers.add(p.count(what));
        }
        for (int d = 0; d < 4; d++) {
            answers.add(p.touch(d, d / 2));
        }
    }

    private static void addLayers(List<Integer> answers, RasterPainter p) {
        for (int layer = 0; layer < p.count(0); layer++) {
            for (int what = 0; what < 4; what++) {
                answers.add(p.told(layer, what));
            }
            for (int y = 0; y < 12; y += 3) {
                answers.add(p.dot(layer, y, y, 0));
                answers.add(p.dot(layer, y, y, 1));
            }
        }
    }

    private static void addSeen(List<Integer> answers, RasterPainter p) {
        for (int y = 0; y < 12; y++) {
            answers.add(p.masked(y));
            answers.add(p.dot(-1, 15 - y, y, 0));
        }
        for (int what = 0; what < 3; what++) {
            answers.add(p.areas(what));
        }
        answers.add(p.dither(0, 11));
        answers.add(p.dither(1, 5));
        answers.add(p.sprayed(0, 5, 9));
        answers.add(p.chance(0, 5, 10, 3, 3, 0));
    }

    private static void addSheets(List<Integer> answers, RasterPainter p) {
        for (int sheet = 0; sheet < 4; sheet++) {
            answers.add(p.tells(sheet, 3, 0));
            answers.add(p.tells(sheet, 3, 1));
        }
        for (int sheet = 0; sheet < 3; sheet++) {
            answers.add(p.copy(sheet, 0, Prepared.FILM, 0, 16));
            answers.add(p.tells(Prepared.FILM, 3, 0));
            answers.add(p.copy(sheet, 0, sheet + 1, 0, 1));
        }
        int[] places = {0, 4, 15, 16, 39};
        for (int sheet = 0; sheet < 4; sheet++) {
            for (int place : places) {
                answers.add(p.put(sheet, place, 7));
            }
        }
    }

    private static void addTape(List<Integer> answers, RasterPainter p) {
        answers.add(p.stroke(0));
        answers.add(p.count(7));
    }

    private static void addActs(List<Integer> answers, RasterPainter p) {
        for (int i = 0; i < 3; i++) {
            answers.add(p.undo(1));
        }
        for (int i = 0; i < 11; i++) {
            answers.add(p.undo(0));
            answers.add(p.told(0, 3));
        }
    }
}
