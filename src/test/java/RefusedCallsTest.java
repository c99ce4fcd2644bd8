import java.util.ArrayList;
import java.util.List;
import java.util.function.ToIntFunction;

/**
 * A refused call changes nothing that later calls show: each one is made on an object of its own,
 * and what this answers afterwards is held against an object that never got the call.
 */
public final class RefusedCallsTest {
    private static final int[] NUMBERS = {
        0, 1, 2, 3, 4, 5, 6, 7, 8, -1, 9, 32, 40, Integer.MIN_VALUE, Integer.MAX_VALUE
    };
    private static final int[] WORTHS_OUTSIDE = {-51, 51, -100, 256, Integer.MIN_VALUE, Integer.MAX_VALUE};
    private static final int[] WORTHS_INSIDE = {-50, 0, 50};
    private static final int STATES = 5;
    private static int wrong = 0;

    private record Refusal(String text, ToIntFunction<ClosureDesk> call, int due) { }

    public static void main(String[] args) {
        for (int state = 0; state < STATES; state++) {
            List<Integer> untouched = later(deskIn(state));
            for (Refusal refusal : refusalsIn(deskIn(state).undertakings())) {
                check(state, refusal, untouched);
            }
        }
        System.out.println(wrong == 0 ? "all answers are as due" : wrong + " answers are not as due");
        if (wrong != 0) {
            System.exit(1);
        }
    }

    private static void check(int state, Refusal refusal, List<Integer> untouched) {
        ClosureDesk desk = deskIn(state);
        int got = refusal.call().applyAsInt(desk);
        if (got != refusal.due()) {
            wrong++;
            System.out.println("state " + state + ": " + refusal.text() + " answered " + got + ", due is " + refusal.due());
        }
        if (!later(desk).equals(untouched)) {
            wrong++;
            System.out.println("state " + state + ": " + refusal.text() + " changed what later calls answer");
        }
    }

    // 0: none. 1: one. 2: three, the middle one gone. 3: nine. 4: nine, of which 0 and 5 are gone.
    private static ClosureDesk deskIn(int state) {
        int[] sizes = {0, 1, 3, 9, 9};
        ClosureDesk desk = new ClosureDesk();
        for (int u = 0; u < sizes[state]; u++) {
            desk.add(u % 2 == 0 ? 11 + u : -9 - u);
        }
        for (int u = 0; u + 1 < sizes[state]; u += 2) {
            desk.need(u, u + 1, true);
            desk.need(u, (u + 4) % 9, true);
        }
        if (state == 2) {
            desk.remove(1);
        }
        if (state == 4) {
            desk.remove(5);
            desk.remove(0);
        }
        return desk;
    }

    private static boolean isIn(int u, int set) {
        return u >= 0 && u < 9 && (set & 1 << u) != 0;
    }

    private static List<Refusal> refusalsIn(int present) {
        List<Refusal> refusals = new ArrayList<>();
        refusedAdds(refusals, present);
        for (int u : NUMBERS) {
            refusedOfOne(refusals, u, isIn(u, present));
            for (int v : NUMBERS) {
                if (u == v || !isIn(u, present) || !isIn(v, present)) {
                    refusedOfTwo(refusals, u, v);
                }
            }
        }
        return refusals;
    }

    private static void refusedAdds(List<Refusal> refusals, int present) {
        for (int worth : WORTHS_OUTSIDE) {
            refusals.add(new Refusal("add(" + worth + ")", d -> d.add(worth), ClosureDesk.NONE));
        }
        for (int worth : WORTHS_INSIDE) {
            if (present == 511) {
                refusals.add(new Refusal("add(" + worth + ")", d -> d.add(worth), ClosureDesk.FULL));
            }
        }
    }

    private static void refusedOfOne(List<Refusal> refusals, int u, boolean there) {
        for (int worth : WORTHS_OUTSIDE) {
            refusals.add(new Refusal("rate(" + u + ", " + worth + ")", d -> d.rate(u, worth) ? 1 : 0, 0));
        }
        if (there) {
            return;
        }
        for (int worth : WORTHS_INSIDE) {
            refusals.add(new Refusal("rate(" + u + ", " + worth + ")", d -> d.rate(u, worth) ? 1 : 0, 0));
        }
        refusals.add(new Refusal("remove(" + u + ")", d -> d.remove(u) ? 1 : 0, 0));
        refusals.add(new Refusal("bestWith(" + u + ")", d -> d.bestWith(u), ClosureDesk.BAD));
        refusals.add(new Refusal("threshold(" + u + ")", d -> d.threshold(u), ClosureDesk.BAD));
    }

    private static void refusedOfTwo(List<Refusal> refusals, int u, int v) {
        String pair = u + ", " + v;
        refusals.add(new Refusal("need(" + pair + ", true)", d -> d.need(u, v, true) ? 1 : 0, 0));
        refusals.add(new Refusal("need(" + pair + ", false)", d -> d.need(u, v, false) ? 1 : 0, 0));
        refusals.add(new Refusal("burden(" + pair + ")", d -> d.burden(u, v), ClosureDesk.BAD));
    }

    // What the object shows at once, and again when all nine numbers have been used and two of
    // them used anew: a trace left at a number that none had comes to light then.
    private static List<Integer> later(ClosureDesk desk) {
        List<Integer> answers = new ArrayList<>();
        look(desk, answers);
        for (int u = 0; u < 9; u++) {
            answers.add(desk.add(3));
        }
        look(desk, answers);
        answers.add(desk.remove(4) ? 1 : 0);
        answers.add(desk.remove(0) ? 1 : 0);
        answers.add(desk.add(-2));
        answers.add(desk.add(2));
        look(desk, answers);
        return answers;
    }

    private static void look(ClosureDesk desk, List<Integer> answers) {
        answers.add(desk.undertakings());
        answers.add(desk.best());
        answers.add(desk.leastBest());
        answers.add(desk.greatestBest());
        answers.add(desk.choices());
        for (int u = 0; u < 9; u++) {
            answers.add(desk.closure(1 << u));
            answers.add(desk.bestWith(u));
            answers.add(desk.bestWithout(u));
            answers.add(desk.threshold(u));
            answers.add(desk.burden(u, (u + 1) % 9));
            answers.add(desk.burden(u, (u + 4) % 9));
        }
    }
}
