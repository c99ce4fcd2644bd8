/** One method for each promise of the document: ordinary inputs, named edges and wrong inputs. */
public final class PromisesTest {
    private static final int[] OUTSIDE = {
        -1, 9, 31, 32, 33, 40, 64, -31, -32, Integer.MIN_VALUE, Integer.MAX_VALUE
    };
    private static int wrong = 0;

    public static void main(String[] args) {
        aNewObject();
        add();
        addAfterRemove();
        remove();
        rate();
        need();
        undertakings();
        closed();
        closure();
        best();
        leastAndGreatestBest();
        bestWith();
        bestWithout();
        threshold();
        thresholdAtItsEnds();
        burden();
        choices();
        orderAndLimits();
        numbersOutside();
        questionsChangeNothing();
        System.out.println(wrong == 0 ? "all answers are as due" : wrong + " answers are not as due");
        if (wrong != 0) {
            System.exit(1);
        }
    }

    private static void due(String call, int got, int want) {
        if (got != want) {
            wrong++;
            System.out.println(call + " answered " + got + ", due is " + want);
        }
    }

    private static void due(String call, boolean got, boolean want) {
        due(call, got ? 1 : 0, want ? 1 : 0);
    }

    private static ClosureDesk deskOf(int... worths) {
        ClosureDesk desk = new ClosureDesk();
        for (int worth : worths) {
            desk.add(worth);
        }
        return desk;
    }

    private static void aNewObject() {
        ClosureDesk desk = new ClosureDesk();
        due("1: undertakings()", desk.undertakings(), 0);
        due("1: best()", desk.best(), 0);
        due("1: leastBest()", desk.leastBest(), 0);
        due("1: greatestBest()", desk.greatestBest(), 0);
        due("1: choices()", desk.choices(), 1);
        due("1: closed(0)", desk.closed(0), true);
        due("1: closure(511)", desk.closure(511), 0);
        ClosureDesk other = new ClosureDesk();
        other.add(5);
        due("1: undertakings() after another object's add", desk.undertakings(), 0);
    }

    private static void add() {
        ClosureDesk desk = new ClosureDesk();
        due("2: add(50)", desk.add(50), 0);
        due("2: add(-50)", desk.add(-50), 1);
        due("2: add(51)", desk.add(51), ClosureDesk.NONE);
        due("2: add(-51)", desk.add(-51), ClosureDesk.NONE);
        due("2: add(MAX)", desk.add(Integer.MAX_VALUE), ClosureDesk.NONE);
        due("2: add(MIN)", desk.add(Integer.MIN_VALUE), ClosureDesk.NONE);
        due("2: undertakings() after refused ones", desk.undertakings(), 3);
        due("2: bestWith(0)", desk.bestWith(0), 50);
        due("2: bestWith(1)", desk.bestWith(1), 0);
        for (int u = 2; u < 9; u++) {
            due("2: add(" + u + ")", desk.add(u), u);
        }
        due("2: add(1) to nine", desk.add(1), ClosureDesk.FULL);
        due("2: undertakings() of nine", desk.undertakings(), 511);
        due("2: best() of nine", desk.best(), 50 + 2 + 3 + 4 + 5 + 6 + 7 + 8);
    }

    private static void addAfterRemove() {
        ClosureDesk desk = deskOf(1, 2, 3, 4, 5, 6, 7, 8, 9);
        desk.need(4, 6, true);
        desk.need(0, 4, true);
        desk.remove(6);
        desk.remove(4);
        due("2: add(-3), the least free number", desk.add(-3), 4);
        due("2: closure(16), needs nothing", desk.closure(16), 16);
        due("2: closure(1), none needs it", desk.closure(1), 1);
        due("2: bestWith(4), the new worth", desk.bestWith(4), 1 + 2 + 3 + 4 + 6 + 8 + 9 - 3);
        due("2: add(0), the next free number", desk.add(0), 6);
        due("2: closure(16) after the needed one is back", desk.closure(16), 16);
        due("2: add(0) when full again", desk.add(0), ClosureDesk.FULL);
    }

    private static void remove() {
        ClosureDesk desk = deskOf(10, -4, 7);
        desk.need(0, 1, true);
        desk.need(1, 2, true);
        due("3: remove(3)", desk.remove(3), false);
        due("3: undertakings() after a refused one", desk.undertakings(), 7);
        due("3: closure(1) after a refused one", desk.closure(1), 7);
        due("3: remove(1)", desk.remove(1), true);
        due("3: undertakings()", desk.undertakings(), 5);
        due("3: remove(1) again", desk.remove(1), false);
        due("3: closure(1), no need through the gone one", desk.closure(1), 1);
        due("3: closed(1)", desk.closed(1), true);
        due("3: best()", desk.best(), 17);
        due("3: bestWith(1)", desk.bestWith(1), ClosureDesk.BAD);
        desk.add(-4);
        due("3: closure(1), the need for it is gone", desk.closure(1), 1);
        due("3: closure(2), its own need is gone", desk.closure(2), 2);
    }

    private static void rate() {
        ClosureDesk desk = deskOf(10, 3);
        due("4: rate(0, 50)", desk.rate(0, 50), true);
        due("4: best()", desk.best(), 53);
        due("4: rate(0, -50)", desk.rate(0, -50), true);
        due("4: bestWith(0)", desk.bestWith(0), -47);
        due("4: rate(0, 51)", desk.rate(0, 51), false);
        due("4: rate(0, -51)", desk.rate(0, -51), false);
        due("4: rate(0, MAX)", desk.rate(0, Integer.MAX_VALUE), false);
        due("4: rate(0, MIN)", desk.rate(0, Integer.MIN_VALUE), false);
        due("4: rate(2, 5)", desk.rate(2, 5), false);
        due("4: bestWith(0) after refused ones", desk.bestWith(0), -47);
        due("4: undertakings() after refused ones", desk.undertakings(), 3);
        desk.need(0, 1, true);
        desk.rate(0, 4);
        due("4: closure(1), needs stay", desk.closure(1), 3);
    }

    private static void need() {
        ClosureDesk desk = deskOf(1, 2, 3);
        due("5: need(0, 1, true)", desk.need(0, 1, true), true);
        due("5: need(0, 1, true) again", desk.need(0, 1, true), true);
        due("5: closure(1)", desk.closure(1), 3);
        due("5: closure(2), the need has a direction", desk.closure(2), 2);
        due("5: need(1, 0, false), none was there", desk.need(1, 0, false), true);
        due("5: closure(1) after it", desk.closure(1), 3);
        due("5: need(0, 2, true)", desk.need(0, 2, true), true);
        due("5: need(0, 1, false)", desk.need(0, 1, false), true);
        due("5: closure(1), the other need stays", desk.closure(1), 5);
        due("5: need(0, 1, false) again", desk.need(0, 1, false), true);
        due("5: closure(1) after it", desk.closure(1), 5);
        due("5: need(1, 1, true)", desk.need(1, 1, true), false);
        due("5: need(1, 1, false)", desk.need(1, 1, false), false);
        due("5: need(0, 3, true)", desk.need(0, 3, true), false);
        due("5: need(3, 0, true)", desk.need(3, 0, true), false);
        due("5: need(3, 3, true)", desk.need(3, 3, true), false);
        due("5: need(3, 0, false)", desk.need(3, 0, false), false);
        desk.add(4);
        due("5: closure(1), a refused need left no trace", desk.closure(1), 5);
        due("5: closure(8), a refused need left no trace", desk.closure(8), 8);
    }

    private static void undertakings() {
        ClosureDesk desk = deskOf(0, 0, 0, 0);
        due("6: undertakings()", desk.undertakings(), 15);
        desk.remove(0);
        desk.remove(2);
        due("6: undertakings()", desk.undertakings(), 10);
        desk.add(1);
        due("6: undertakings()", desk.undertakings(), 11);
    }

    private static ClosureDesk chainOfThree() {
        ClosureDesk desk = deskOf(1, 1, 1);
        desk.need(0, 1, true);
        desk.need(1, 2, true);
        return desk;
    }

    private static void closed() {
        int[] closedSets = {0, 4, 6, 7};
        for (int set = 0; set < 1024; set++) {
            boolean listed = false;
            for (int closedSet : closedSets) {
                listed |= set == closedSet;
            }
            // A new object each time: one is good for 512 calls only.
            due("7: closed(" + set + ")", chainOfThree().closed(set), listed);
        }
        ClosureDesk desk = chainOfThree();
        due("7: closed(-1)", desk.closed(-1), false);
        due("7: closed(MIN)", desk.closed(Integer.MIN_VALUE), false);
        due("7: closed(MIN | 4)", desk.closed(Integer.MIN_VALUE | 4), false);
        desk.remove(1);
        due("7: closed(1) when the needed one is gone", desk.closed(1), true);
        due("7: closed(2) of a gone one", desk.closed(2), false);
    }

    private static void closure() {
        ClosureDesk desk = deskOf(0, 0, 0, 0, 0, 0, 0, 0, 0);
        for (int u = 8; u > 0; u--) {
            desk.need(u, u - 1, true);
        }
        for (int u = 0; u < 9; u++) {
            due("8: closure of the falling chain from " + u, desk.closure(1 << u), (2 << u) - 1);
        }
        for (int u = 8; u > 0; u--) {
            desk.need(u, u - 1, false);
        }
        for (int u = 0; u < 8; u++) {
            desk.need(u, u + 1, true);
        }
        for (int u = 0; u < 9; u++) {
            due("8: closure of the rising chain from " + u, desk.closure(1 << u), 511 & -(1 << u));
        }
        desk.remove(4);
        due("8: closure(1), the chain is cut", desk.closure(1), 15);
        due("8: closure(16) of a gone one", desk.closure(16), 0);
        due("8: closure(16 + 128)", desk.closure(16 + 128), 128 + 256);
        due("8: closure(512)", desk.closure(512), 0);
        due("8: closure(-1)", desk.closure(-1), 511 - 16);
        due("8: closure(MIN)", desk.closure(Integer.MIN_VALUE), 0);
        due("8: closure(0)", desk.closure(0), 0);
        desk.need(8, 5, true);
        due("8: closure(64) of a ring", desk.closure(64), 32 + 64 + 128 + 256);
    }

    private static void best() {
        due("9: best() of bad ones", deskOf(-1, -50).best(), 0);
        due("9: best() of nine great ones", deskOf(50, 50, 50, 50, 50, 50, 50, 50, 50).best(), 450);
        ClosureDesk desk = deskOf(10, -4, 7, -9);
        desk.need(0, 1, true);
        desk.need(0, 3, true);
        desk.need(2, 3, true);
        due("9: best() when two share a cost", desk.best(), 4);
        desk.rate(3, -13);
        due("9: best() when the cost is even", desk.best(), 0);
        desk.rate(3, -14);
        due("9: best() when the cost is too great", desk.best(), 0);
    }

    private static void leastAndGreatestBest() {
        ClosureDesk desk = deskOf(5, -5, 3, 0, -1);
        desk.need(0, 1, true);
        due("10: leastBest()", desk.leastBest(), 4);
        due("11: greatestBest()", desk.greatestBest(), 15);
        desk.rate(0, 6);
        due("10: leastBest() of one that pays", desk.leastBest(), 7);
        due("11: greatestBest() of one that pays", desk.greatestBest(), 15);
        desk.rate(0, 4);
        due("10: leastBest() of one that does not pay", desk.leastBest(), 4);
        due("11: greatestBest() of one that does not pay", desk.greatestBest(), 12);
        ClosureDesk bad = deskOf(-1, -2);
        due("10: leastBest() of bad ones", bad.leastBest(), 0);
        due("11: greatestBest() of bad ones", bad.greatestBest(), 0);
        ClosureDesk nine = deskOf(1, 1, 1, 1, 1, 1, 1, 1, 1);
        due("10: leastBest() of nine good ones", nine.leastBest(), 511);
        due("11: greatestBest() of nine good ones", nine.greatestBest(), 511);
    }

    private static void bestWith() {
        ClosureDesk desk = deskOf(-10, -20, 6);
        desk.need(0, 1, true);
        due("12: bestWith(0)", desk.bestWith(0), -24);
        due("12: bestWith(1)", desk.bestWith(1), -14);
        due("12: bestWith(2)", desk.bestWith(2), 6);
        due("12: bestWith(3)", desk.bestWith(3), ClosureDesk.BAD);
        ClosureDesk nine = deskOf(-50, -50, -50, -50, -50, -50, -50, -50, -50);
        for (int u = 0; u < 9; u++) {
            nine.need(u, (u + 1) % 9, true);
        }
        due("12: bestWith(4), the least there can be", nine.bestWith(4), -450);
    }

    private static void bestWithout() {
        ClosureDesk desk = deskOf(10, -4, 8);
        desk.need(0, 1, true);
        due("13: bestWithout(0)", desk.bestWithout(0), 8);
        due("13: bestWithout(1)", desk.bestWithout(1), 8);
        due("13: bestWithout(2)", desk.bestWithout(2), 6);
        due("13: bestWithout(3), there is none", desk.bestWithout(3), 14);
        due("13: bestWithout(0) of the only one", deskOf(-7).bestWithout(0), 0);
    }

    private static void threshold() {
        ClosureDesk desk = deskOf(20, -15, 30);
        due("14: threshold(0), needs nothing", desk.threshold(0), 0);
        desk.need(0, 1, true);
        due("14: threshold(0)", desk.threshold(0), 15);
        due("14: threshold(1)", desk.threshold(1), -20);
        due("14: threshold(3)", desk.threshold(3), ClosureDesk.BAD);
        desk.rate(0, -50);
        due("14: threshold(0), its own worth does not count", desk.threshold(0), 15);
        due("14: threshold(1), none pays for it", desk.threshold(1), 0);
        desk.rate(0, 15);
        due("11: greatestBest() with the threshold's worth", desk.greatestBest(), 7);
        desk.rate(0, 14);
        due("11: greatestBest() below it", desk.greatestBest(), 4);
    }

    private static void thresholdAtItsEnds() {
        ClosureDesk costly = deskOf(0, -25, -25);
        costly.need(0, 1, true);
        costly.need(0, 2, true);
        due("14: threshold(0) at 50", costly.threshold(0), 50);
        costly.rate(2, -26);
        due("14: threshold(0) at 51", costly.threshold(0), 51);
        costly.rate(2, -50);
        due("14: threshold(0) past 51", costly.threshold(0), 51);
        ClosureDesk wanted = deskOf(0, 25, 24);
        wanted.need(1, 0, true);
        wanted.need(2, 0, true);
        due("14: threshold(0) at -49", wanted.threshold(0), -49);
        wanted.rate(2, 25);
        due("14: threshold(0) at -50", wanted.threshold(0), -50);
        wanted.rate(2, 26);
        due("14: threshold(0), -51 would do", wanted.threshold(0), -50);
        wanted.rate(2, 50);
        due("14: threshold(0), -75 would do", wanted.threshold(0), -50);
    }

    private static void burden() {
        ClosureDesk desk = deskOf(10, -4, 7, -9);
        desk.need(0, 1, true);
        desk.need(0, 3, true);
        desk.need(2, 3, true);
        due("15: burden(0, 1)", desk.burden(0, 1), 4);
        due("15: burden(0, 3)", desk.burden(0, 3), 2);
        due("15: burden(2, 3)", desk.burden(2, 3), 3);
        due("15: burden(1, 0), no need", desk.burden(1, 0), 0);
        due("15: burden(3, 2), no need", desk.burden(3, 2), 0);
        due("15: burden(0, 0)", desk.burden(0, 0), ClosureDesk.BAD);
        due("15: burden(0, 4)", desk.burden(0, 4), ClosureDesk.BAD);
        due("15: burden(4, 0)", desk.burden(4, 0), ClosureDesk.BAD);
        due("15: burden(4, 4)", desk.burden(4, 4), ClosureDesk.BAD);
        due("15: closure(1), the needs stay", desk.closure(1), 11);
        due("15: closure(4), the needs stay", desk.closure(4), 12);
        desk.need(1, 3, true);
        due("15: burden(0, 3), still needed through 1", desk.burden(0, 3), 0);
        desk.remove(3);
        due("15: burden(0, 3), gone", desk.burden(0, 3), ClosureDesk.BAD);
    }

    private static void choices() {
        ClosureDesk desk = deskOf(0, 0, 0);
        due("16: choices()", desk.choices(), 8);
        desk.need(0, 1, true);
        due("16: choices() with a need", desk.choices(), 6);
        desk.need(1, 0, true);
        due("16: choices() with a ring", desk.choices(), 4);
        desk.rate(2, 1);
        due("16: choices() with a good one", desk.choices(), 2);
        desk.rate(0, -1);
        due("16: choices() with a bad one", desk.choices(), 1);
        due("16: choices() of nine", deskOf(0, 0, 0, 0, 0, 0, 0, 0, 0).choices(), 512);
    }

    private static void orderAndLimits() {
        ClosureDesk desk = deskOf(1, 2, 3, 4, 5, 6, 7, 8, 9);
        due("17: add(51) to nine", desk.add(51), ClosureDesk.NONE);
        due("17: add(-51) to nine", desk.add(-51), ClosureDesk.NONE);
        due("17: add(50) to nine", desk.add(50), ClosureDesk.FULL);
        due("17: add(-50) to nine", desk.add(-50), ClosureDesk.FULL);
        due("17: best(), refused ones changed nothing", desk.best(), 45);
    }

    private static void numbersOutside() {
        ClosureDesk desk = deskOf(1, 2, 3, 4, 5, 6, 7, 8, 9);
        for (int u : OUTSIDE) {
            due("3: remove(" + u + ")", desk.remove(u), false);
            due("4: rate(" + u + ", 0)", desk.rate(u, 0), false);
            due("5: need(" + u + ", 2, true)", desk.need(u, 2, true), false);
            due("5: need(2, " + u + ", true)", desk.need(2, u, true), false);
            due("12: bestWith(" + u + ")", desk.bestWith(u), ClosureDesk.BAD);
            due("13: bestWithout(" + u + ")", desk.bestWithout(u), 45);
            due("14: threshold(" + u + ")", desk.threshold(u), ClosureDesk.BAD);
            due("15: burden(" + u + ", 2)", desk.burden(u, 2), ClosureDesk.BAD);
            due("15: burden(2, " + u + ")", desk.burden(2, u), ClosureDesk.BAD);
        }
        due("undertakings() after all of them", desk.undertakings(), 511);
        due("best() after all of them", desk.best(), 45);
        for (int u = 0; u < 9; u++) {
            due("closed(" + (1 << u) + ") after all of them", desk.closed(1 << u), true);
        }
    }

    private static void questionsChangeNothing() {
        ClosureDesk desk = deskOf(10, -4, 7, -9);
        desk.need(0, 1, true);
        desk.need(0, 3, true);
        desk.need(2, 3, true);
        for (int round = 0; round < 3; round++) {
            due("undertakings()", desk.undertakings(), 15);
            due("closed(11)", desk.closed(11), true);
            due("closure(5)", desk.closure(5), 15);
            due("best()", desk.best(), 4);
            due("leastBest()", desk.leastBest(), 15);
            due("greatestBest()", desk.greatestBest(), 15);
            due("bestWith(1)", desk.bestWith(1), 4);
            due("bestWithout(0)", desk.bestWithout(0), 0);
            due("threshold(0)", desk.threshold(0), 6);
            due("burden(0, 3)", desk.burden(0, 3), 2);
            due("choices()", desk.choices(), 1);
        }
    }
}
