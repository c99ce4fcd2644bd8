/**
 * One method for each sentence of the document that names a boundary case; the sentence stands
 * first in the method and is printed with every answer that is not as due.
 */
public final class BoundariesTest {
    private static final int NONE = -1;
    private static final int FULL = -2;
    private static final int BAD = -100000;
    private static final int MIN = Integer.MIN_VALUE;
    private static final int MAX = Integer.MAX_VALUE;

    // Just outside 0 .. 8, the ends of int, and numbers that a shift, a byte or a short would
    // take for one of 0 .. 8.
    private static final int[] NO_NUMBERS = {
        -1, 9, -2, 10, 31, 32, 33, 40, 41, 64, -9, -24, -31, -32, 256, 264, -256, 65536, 65544, -65536,
        MIN, MIN + 1, MIN + 8, MAX, MAX - 1
    };
    // The same for -50 .. 50.
    private static final int[] NO_WORTHS = {
        -51, 51, -52, 52, 100, -100, 127, 128, 206, 256, 306, -256, -306, 65536, 65586, -65536,
        MIN, MIN + 50, MAX, MAX - 50
    };
    private static final int[] END_WORTHS = {-50, -49, -1, 0, 1, 49, 50};

    private static String sentence = "";
    private static int wrong = 0;

    public static void main(String[] args) {
        terms();
        newObject();
        changes();
        sets();
        bestSets();
        whatIf();
        calls();
        System.out.println(wrong == 0 ? "all answers are as due" : wrong + " answers are not as due");
        if (wrong != 0) {
            System.exit(1);
        }
    }

    private static void terms() {
        numbersUsed();
        numbersNotUsed();
        worthsAtTheirEnds();
        bitsOfNoUndertaking();
        needsOfOthers();
        onlyPresentOnesAreNeeded();
        emptySetIsClosed();
        emptySetHasWorthNought();
        bestByOne();
    }

    private static void newObject() {
        newObjectHasNone();
        newObjectAnswersOfNone();
        newObjectsAreApart();
    }

    private static void changes() {
        addedNeedsNothing();
        addedIsNeededByNone();
        addGivesTheLeastNumber();
        addTakesWorthsInside();
        addRefusesWorthsOutside();
        addIsFullAtNine();
        removeTakesNeedsOfIt();
        removeTakesNeedsForIt();
        removeFromNineToNone();
        removeRefuses();
        rateTakesWorthsInside();
        rateRefusesWorthsOutside();
        rateRefusesWhenThereIsNone();
        needOffAndOnTwice();
        needRefusesItself();
        needRefusesWhenOneIsNotThere();
        noneBeforeFull();
    }

    private static void sets() {
        undertakingsFromNoneToNine();
        closedOnlyOfPresentOnes();
        closedAtTheFullSet();
        closureTakesPresentOnesOnly();
        closureOfTheEmptyAndTheFullSet();
        closureThroughEight();
    }

    private static void bestSets() {
        bestAtItsEnds();
        leastBestAtItsEnds();
        greatestBestAtItsEnds();
        leastAndGreatestBestAreBest();
        choicesAtTheirEnds();
    }

    private static void whatIf() {
        bestWithAtItsEnds();
        bestWithOfNone();
        bestWithoutAtItsEnds();
        bestWithoutOfNone();
        thresholdAtFifty();
        thresholdPastFifty();
        thresholdAtMinusFifty();
        thresholdLeavesItsOwnWorthOut();
        thresholdIsTheLeast();
        thresholdOfNone();
        burdenAtItsGreatest();
        burdenOfNone();
        burdenOnItself();
        burdenWithoutNeed();
    }

    private static void calls() {
        lastCallThatCounts();
    }

    private static void sentence(String promise, String words) {
        sentence = promise + " \"" + words + "\"";
    }

    private static void due(String call, int got, int want) {
        if (got != want) {
            wrong++;
            System.out.println(sentence + ": " + call + " answered " + got + ", due is " + want);
        }
    }

    private static void due(String call, boolean got, boolean want) {
        due(call, got ? 1 : 0, want ? 1 : 0);
    }

    private static ClosureDesk deskOf(int... worths) {
        ClosureDesk desk = new ClosureDesk();
        for (int worth : worths) {
            desk.add(worth);
        }
        return desk;
    }

    private static ClosureDesk nineOf(int worth) {
        return deskOf(worth, worth, worth, worth, worth, worth, worth, worth, worth);
    }

    private static ClosureDesk ringOfNine(int worth) {
        ClosureDesk desk = nineOf(worth);
        for (int u = 0; u < 9; u++) {
            desk.need(u, (u + 1) % 9, true);
        }
        return desk;
    }

    // ---- Terms

    private static void numbersUsed() {
        sentence("Terms", "at most nine UNDERTAKINGS, with numbers 0 .. 8");
        ClosureDesk desk = new ClosureDesk();
        for (int u = 0; u < 9; u++) {
            due("add(" + u + ")", desk.add(u), u);
        }
        due("add(9), a tenth", desk.add(9), FULL);
        for (int u = 0; u < 9; u++) {
            numberIsUsed(nineOf(1), u, (u + 1) % 9);
        }
    }

    private static void numberIsUsed(ClosureDesk desk, int u, int other) {
        due("rate(" + u + ", 2)", desk.rate(u, 2), true);
        due("bestWith(" + u + ")", desk.bestWith(u), 10);
        due("bestWithout(" + u + ")", desk.bestWithout(u), 8);
        due("threshold(" + u + ")", desk.threshold(u), 0);
        due("rate(" + other + ", -1)", desk.rate(other, -1), true);
        due("need(" + u + ", " + other + ", true)", desk.need(u, other, true), true);
        due("closure of " + u, desk.closure(1 << u), 1 << u | 1 << other);
        due("burden(" + u + ", " + other + ")", desk.burden(u, other), 1);
        due("need(" + u + ", " + other + ", false)", desk.need(u, other, false), true);
        due("remove(" + u + ")", desk.remove(u), true);
        due("undertakings() without " + u, desk.undertakings(), 511 - (1 << u));
    }

    private static void numbersNotUsed() {
        sentence("Terms", "with numbers 0 .. 8");
        for (int u : NO_NUMBERS) {
            ClosureDesk desk = deskOf(1, 2, 3, 4, 5, 6, 7, 8, 9);
            due("remove(" + u + ")", desk.remove(u), false);
            due("rate(" + u + ", 0)", desk.rate(u, 0), false);
            due("need(" + u + ", 2, true)", desk.need(u, 2, true), false);
            due("need(2, " + u + ", true)", desk.need(2, u, true), false);
            due("bestWith(" + u + ")", desk.bestWith(u), BAD);
            due("bestWithout(" + u + ")", desk.bestWithout(u), 45);
            due("threshold(" + u + ")", desk.threshold(u), BAD);
            due("burden(" + u + ", 2)", desk.burden(u, 2), BAD);
            due("burden(2, " + u + ")", desk.burden(2, u), BAD);
            due("undertakings() after them", desk.undertakings(), 511);
            due("best() after them", desk.best(), 45);
        }
    }

    private static void worthsAtTheirEnds() {
        sentence("Terms", "each has a worth (-50 .. 50)");
        due("best() of nine at 50", nineOf(50).best(), 450);
        due("bestWith(0) of a ring of nine at -50", ringOfNine(-50).bestWith(0), -450);
        ClosureDesk even = deskOf(50, -50);
        even.need(0, 1, true);
        due("best() of 50 that needs -50", even.best(), 0);
        due("choices() of 50 that needs -50", even.choices(), 2);
    }

    private static void bitsOfNoUndertaking() {
        sentence("Terms", "A set of present undertakings (as a number, bit u for undertaking u)");
        ClosureDesk desk = nineOf(1);
        for (int bit = 0; bit < 32; bit++) {
            int set = 1 << bit;
            due("closed(1 << " + bit + ")", desk.closed(set), bit < 9);
            due("closed(1 | 1 << " + bit + ")", desk.closed(1 | set), bit < 9);
            due("closure(1 << " + bit + ")", desk.closure(set), bit < 9 ? set : 0);
            due("closure(1 | 1 << " + bit + ")", desk.closure(1 | set), bit < 9 ? 1 | set : 1);
        }
        int[] beyond = {512, 513, 1023, MAX, MIN, MIN | 511, -1, -512};
        for (int set : beyond) {
            due("closed(" + set + ")", desk.closed(set), false);
            due("closure(" + set + ")", desk.closure(set), set & 511);
        }
        due("closed(511)", desk.closed(511), true);
    }

    private static void needsOfOthers() {
        sentence("Terms", "An undertaking can NEED others.");
        for (int u = 0; u < 9; u++) {
            ClosureDesk desk = nineOf(0);
            for (int v = 0; v < 9; v++) {
                due("need(" + u + ", " + v + ", true)", desk.need(u, v, true), u != v);
            }
            due("closure of " + u + " that needs all others", desk.closure(1 << u), 511);
            due("choices() when " + u + " needs all others", desk.choices(), 257);
            for (int v = 0; v < 9; v++) {
                due("closed(all but " + v + ")", desk.closed(511 & ~(1 << v)), u == v);
            }
        }
        ClosureDesk both = deskOf(0, 0);
        due("need(0, 1, true)", both.need(0, 1, true), true);
        due("need(1, 0, true), each needs the other", both.need(1, 0, true), true);
        due("choices() when each needs the other", both.choices(), 2);
    }

    private static void onlyPresentOnesAreNeeded() {
        sentence("Terms", "CLOSED when with every undertaking it has all present ones that this needs");
        ClosureDesk desk = deskOf(9, -20, 1);
        desk.need(0, 1, true);
        desk.need(0, 2, true);
        due("closed(5) without a needed one", desk.closed(5), false);
        due("closed(3) without a needed one", desk.closed(3), false);
        due("closed(7)", desk.closed(7), true);
        desk.remove(1);
        due("closed(5) when the missing one is gone", desk.closed(5), true);
        due("closed(1), the other need stays", desk.closed(1), false);
        due("best()", desk.best(), 10);
        due("leastBest()", desk.leastBest(), 5);
    }

    private static void emptySetIsClosed() {
        sentence("Terms", "the empty set has worth 0 and is closed");
        due("closed(0) with none", new ClosureDesk().closed(0), true);
        due("closed(0) with one", deskOf(5).closed(0), true);
        due("closed(0) with a ring of nine", ringOfNine(50).closed(0), true);
        due("closure(0) with a ring of nine", ringOfNine(50).closure(0), 0);
        ClosureDesk gone = nineOf(7);
        for (int u = 0; u < 9; u++) {
            gone.remove(u);
        }
        due("closed(0) with nine gone", gone.closed(0), true);
        due("choices() with nine gone", gone.choices(), 1);
    }

    private static void emptySetHasWorthNought() {
        sentence("Terms", "the empty set has worth 0 and is closed");
        due("best() of -1", deskOf(-1).best(), 0);
        due("choices() of -1", deskOf(-1).choices(), 1);
        due("choices() of 0", deskOf(0).choices(), 2);
        due("choices() of 1", deskOf(1).choices(), 1);
        due("bestWithout(0) of 50", deskOf(50).bestWithout(0), 0);
        due("bestWithout(0) of -50", deskOf(-50).bestWithout(0), 0);
        due("bestWithout(0) of a ring of nine", ringOfNine(50).bestWithout(0), 0);
        due("best() of nine at -50", nineOf(-50).best(), 0);
    }

    private static void bestByOne() {
        sentence("Terms", "The BEST sets are the closed sets with the greatest worth.");
        ClosureDesk desk = deskOf(20, -20);
        desk.need(0, 1, true);
        due("choices() at a tie", desk.choices(), 2);
        due("greatestBest() at a tie", desk.greatestBest(), 3);
        due("leastBest() at a tie", desk.leastBest(), 0);
        desk.rate(0, 21);
        due("choices() one above", desk.choices(), 1);
        due("leastBest() one above", desk.leastBest(), 3);
        desk.rate(0, 19);
        due("choices() one below", desk.choices(), 1);
        due("greatestBest() one below", desk.greatestBest(), 0);
    }

    // ---- Promise 1

    private static void newObjectHasNone() {
        sentence("1", "No undertakings.");
        ClosureDesk desk = new ClosureDesk();
        due("undertakings()", desk.undertakings(), 0);
        due("best()", desk.best(), 0);
        due("leastBest()", desk.leastBest(), 0);
        due("greatestBest()", desk.greatestBest(), 0);
        due("choices()", desk.choices(), 1);
        int[] sets = {1, 256, 511, 512, -1, MIN, MAX};
        for (int set : sets) {
            due("closed(" + set + ")", desk.closed(set), false);
            due("closure(" + set + ")", desk.closure(set), 0);
        }
        due("add(1)", desk.add(1), 0);
    }

    private static void newObjectAnswersOfNone() {
        sentence("1", "No undertakings.");
        for (int u = 0; u < 9; u++) {
            answersOfNone(new ClosureDesk(), u);
        }
        for (int u : NO_NUMBERS) {
            answersOfNone(new ClosureDesk(), u);
        }
    }

    private static void answersOfNone(ClosureDesk desk, int u) {
        due("remove(" + u + ")", desk.remove(u), false);
        due("rate(" + u + ", 0)", desk.rate(u, 0), false);
        due("bestWith(" + u + ")", desk.bestWith(u), BAD);
        due("bestWithout(" + u + ")", desk.bestWithout(u), 0);
        due("threshold(" + u + ")", desk.threshold(u), BAD);
        for (int v = 0; v < 9; v++) {
            due("need(" + u + ", " + v + ", true)", desk.need(u, v, true), false);
            due("need(" + v + ", " + u + ", false)", desk.need(v, u, false), false);
            due("burden(" + u + ", " + v + ")", desk.burden(u, v), BAD);
            due("burden(" + v + ", " + u + ")", desk.burden(v, u), BAD);
        }
        due("undertakings() after them", desk.undertakings(), 0);
    }

    private static void newObjectsAreApart() {
        sentence("1", "No undertakings.");
        ClosureDesk first = ringOfNine(50);
        ClosureDesk second = new ClosureDesk();
        due("undertakings() beside an object with nine", second.undertakings(), 0);
        due("add(3) beside an object with nine", second.add(3), 0);
        due("closure(1) beside an object with nine", second.closure(1), 1);
        due("best() beside an object with nine", second.best(), 3);
        due("undertakings() of the first", first.undertakings(), 511);
        due("best() of the first", first.best(), 450);
    }

    // ---- Promise 2

    private static void addedNeedsNothing() {
        sentence("2", "Adds an undertaking that needs nothing");
        for (int u = 0; u < 9; u++) {
            ClosureDesk desk = nineOf(0);
            for (int v = 0; v < 9; v++) {
                desk.need(u, v, true);
            }
            desk.remove(u);
            due("add(0)", desk.add(0), u);
            due("closure of the new " + u, desk.closure(1 << u), 1 << u);
            due("closed(only the new " + u + ")", desk.closed(1 << u), true);
            due("choices()", desk.choices(), 512);
        }
        ClosureDesk desk = deskOf(1);
        due("need(1, 0, true), 1 is not there yet", desk.need(1, 0, true), false);
        due("add(1)", desk.add(1), 1);
        due("closure(2)", desk.closure(2), 2);
    }

    private static void addedIsNeededByNone() {
        sentence("2", "and that none needs");
        for (int u = 0; u < 9; u++) {
            ClosureDesk desk = nineOf(0);
            for (int v = 0; v < 9; v++) {
                desk.need(v, u, true);
            }
            desk.remove(u);
            due("add(0)", desk.add(0), u);
            due("closed(all but the new " + u + ")", desk.closed(511 & ~(1 << u)), true);
            due("choices()", desk.choices(), 512);
        }
        ClosureDesk desk = deskOf(1);
        due("need(0, 1, true), 1 is not there yet", desk.need(0, 1, true), false);
        due("add(1)", desk.add(1), 1);
        due("closure(1)", desk.closure(1), 1);
    }

    private static void addGivesTheLeastNumber() {
        sentence("2", "answers the least number that none has");
        for (int u = 0; u < 9; u++) {
            ClosureDesk desk = nineOf(0);
            desk.remove(u);
            due("add(1), only " + u + " is free", desk.add(1), u);
            desk.remove(8);
            desk.remove(u);
            due("add(1), " + u + " and 8 are free", desk.add(1), u);
        }
        ClosureDesk desk = nineOf(0);
        for (int u = 8; u >= 0; u--) {
            desk.remove(u);
        }
        for (int u = 0; u < 9; u++) {
            due("add(1), " + u + " .. 8 are free", desk.add(1), u);
        }
    }

    private static void addTakesWorthsInside() {
        sentence("2", "NONE when worth is not -50 .. 50");
        for (int worth = -50; worth <= 50; worth++) {
            ClosureDesk desk = new ClosureDesk();
            due("add(" + worth + ")", desk.add(worth), 0);
            due("undertakings() after add(" + worth + ")", desk.undertakings(), 1);
            due("bestWith(0) after add(" + worth + ")", desk.bestWith(0), worth);
        }
    }

    private static void addRefusesWorthsOutside() {
        sentence("2", "NONE when worth is not -50 .. 50");
        ClosureDesk desk = deskOf(4);
        for (int worth : NO_WORTHS) {
            due("add(" + worth + ")", desk.add(worth), NONE);
            due("undertakings() after add(" + worth + ")", desk.undertakings(), 1);
            due("best() after add(" + worth + ")", desk.best(), 4);
        }
        due("add(2) after them", desk.add(2), 1);
        due("best() after add(2)", desk.best(), 6);
    }

    private static void addIsFullAtNine() {
        sentence("2", "FULL when nine are there");
        ClosureDesk desk = deskOf(1, 1, 1, 1, 1, 1, 1, 1);
        due("add(1) to eight", desk.add(1), 8);
        for (int worth : END_WORTHS) {
            due("add(" + worth + ") to nine", desk.add(worth), FULL);
        }
        due("undertakings() after them", desk.undertakings(), 511);
        due("best() after them", desk.best(), 9);
        for (int u = 0; u < 9; u++) {
            desk.remove(u);
            due("add(2) when eight are left", desk.add(2), u);
            due("add(2) to nine again", desk.add(2), FULL);
        }
        due("best() at last", desk.best(), 18);
    }

    // ---- Promise 3

    private static void removeTakesNeedsOfIt() {
        sentence("3", "Takes undertaking u away, with all needs of and for it");
        ClosureDesk desk = deskOf(1, -30, -30);
        desk.need(0, 1, true);
        desk.need(0, 2, true);
        due("remove(0)", desk.remove(0), true);
        due("add(1)", desk.add(1), 0);
        due("closure(1)", desk.closure(1), 1);
        due("best()", desk.best(), 1);
        due("burden(0, 1)", desk.burden(0, 1), 0);
        due("burden(0, 2)", desk.burden(0, 2), 0);
    }

    private static void removeTakesNeedsForIt() {
        sentence("3", "Takes undertaking u away, with all needs of and for it");
        ClosureDesk desk = deskOf(1, 2, -30);
        desk.need(0, 2, true);
        desk.need(1, 2, true);
        due("remove(2)", desk.remove(2), true);
        due("closed(3)", desk.closed(3), true);
        due("best()", desk.best(), 3);
        due("add(-30)", desk.add(-30), 2);
        due("closed(3) when the number is used again", desk.closed(3), true);
        due("best() when the number is used again", desk.best(), 3);
        due("burden(0, 2)", desk.burden(0, 2), 0);
        due("burden(1, 2)", desk.burden(1, 2), 0);
    }

    private static void removeFromNineToNone() {
        sentence("3", "Takes undertaking u away ... and answers true");
        ClosureDesk desk = ringOfNine(1);
        int left = 511;
        for (int u = 0; u < 9; u++) {
            left -= 1 << u;
            due("remove(" + u + ")", desk.remove(u), true);
            due("undertakings() after remove(" + u + ")", desk.undertakings(), left);
            due("best() after remove(" + u + ")", desk.best(), 8 - u);
            due("closed(what is left) after remove(" + u + ")", desk.closed(left), true);
        }
    }

    private static void removeRefuses() {
        sentence("3", "false, changing nothing, when there is none");
        due("remove(0) from none", new ClosureDesk().remove(0), false);
        ClosureDesk desk = deskOf(1, 2, 4);
        due("remove(1)", desk.remove(1), true);
        due("remove(1) again", desk.remove(1), false);
        for (int u = 3; u < 9; u++) {
            due("remove(" + u + ")", desk.remove(u), false);
        }
        for (int u : NO_NUMBERS) {
            due("remove(" + u + ")", desk.remove(u), false);
        }
        due("undertakings() after them", desk.undertakings(), 5);
        due("best() after them", desk.best(), 5);
    }

    // ---- Promise 4

    private static void rateTakesWorthsInside() {
        sentence("4", "Gives undertaking u another worth and answers true");
        ClosureDesk desk = deskOf(7);
        for (int worth = -50; worth <= 50; worth++) {
            due("rate(0, " + worth + ")", desk.rate(0, worth), true);
            due("bestWith(0) after rate(0, " + worth + ")", desk.bestWith(0), worth);
            due("best() after rate(0, " + worth + ")", desk.best(), worth > 0 ? worth : 0);
        }
        due("rate(0, 50), the worth it has", desk.rate(0, 50), true);
        due("best() after it", desk.best(), 50);
    }

    private static void rateRefusesWorthsOutside() {
        sentence("4", "false, changing nothing, when ... worth is not -50 .. 50");
        ClosureDesk desk = deskOf(7, 8);
        for (int worth : NO_WORTHS) {
            due("rate(1, " + worth + ")", desk.rate(1, worth), false);
            due("bestWith(1) after rate(1, " + worth + ")", desk.bestWith(1), 15);
            due("bestWithout(0) after rate(1, " + worth + ")", desk.bestWithout(0), 8);
            due("rate(2, " + worth + "), there is none", desk.rate(2, worth), false);
        }
    }

    private static void rateRefusesWhenThereIsNone() {
        sentence("4", "false, changing nothing, when there is none");
        ClosureDesk desk = deskOf(7, 8, 9);
        desk.remove(1);
        for (int worth : END_WORTHS) {
            due("rate(1, " + worth + "), gone", desk.rate(1, worth), false);
            due("rate(3, " + worth + "), never there", desk.rate(3, worth), false);
            due("rate(-1, " + worth + ")", desk.rate(-1, worth), false);
            due("rate(9, " + worth + ")", desk.rate(9, worth), false);
        }
        due("undertakings() after them", desk.undertakings(), 5);
        due("best() after them", desk.best(), 16);
        due("add(2) after them", desk.add(2), 1);
        due("best() after add(2)", desk.best(), 18);
    }

    // ---- Promise 5

    private static void needOffAndOnTwice() {
        sentence("5", "Lets undertaking u need undertaking v, or not, and answers true");
        ClosureDesk desk = nineOf(0);
        due("need(0, 8, false), none was there", desk.need(0, 8, false), true);
        due("closure(1)", desk.closure(1), 1);
        due("need(0, 8, true)", desk.need(0, 8, true), true);
        due("need(0, 8, true) again", desk.need(0, 8, true), true);
        due("closure(1)", desk.closure(1), 257);
        due("need(0, 8, false) once", desk.need(0, 8, false), true);
        due("closure(1)", desk.closure(1), 1);
        due("need(0, 8, false) again", desk.need(0, 8, false), true);
        due("closure(1)", desk.closure(1), 1);
        due("choices()", desk.choices(), 512);
        desk.need(0, 8, true);
        desk.need(0, 7, true);
        due("need(0, 8, false), another need is on", desk.need(0, 8, false), true);
        due("closure(1), the other need stays on", desk.closure(1), 129);
    }

    private static void needRefusesItself() {
        sentence("5", "false, changing nothing, when u = v");
        ClosureDesk desk = nineOf(1);
        for (int u = 0; u < 9; u++) {
            due("need(" + u + ", " + u + ", true)", desk.need(u, u, true), false);
            due("need(" + u + ", " + u + ", false)", desk.need(u, u, false), false);
            due("closed(" + (1 << u) + ")", desk.closed(1 << u), true);
        }
        due("need(0, 1, true)", desk.need(0, 1, true), true);
        due("need(0, 0, false)", desk.need(0, 0, false), false);
        due("need(1, 1, false)", desk.need(1, 1, false), false);
        due("closure(1), the need for another stays", desk.closure(1), 3);
        for (int u : NO_NUMBERS) {
            due("need(" + u + ", " + u + ", true)", desk.need(u, u, true), false);
        }
    }

    private static void needRefusesWhenOneIsNotThere() {
        sentence("5", "false, changing nothing, when ... one of them is not there");
        ClosureDesk desk = deskOf(1, 1, 1);
        desk.remove(1);
        int[] absent = {1, 3, 8, 9, -1, 32, MIN, MAX};
        for (int u : absent) {
            due("need(0, " + u + ", true)", desk.need(0, u, true), false);
            due("need(" + u + ", 0, true)", desk.need(u, 0, true), false);
            due("need(0, " + u + ", false)", desk.need(0, u, false), false);
            due("need(" + u + ", 0, false)", desk.need(u, 0, false), false);
            due("need(" + u + ", 4, true), neither is there", desk.need(u, 4, true), false);
            due("need(4, " + u + ", true), neither is there", desk.need(4, u, true), false);
        }
        for (int u = 0; u < 7; u++) {
            desk.add(0);
        }
        due("undertakings() with all nine", desk.undertakings(), 511);
        for (int u = 0; u < 9; u++) {
            due("closure(" + (1 << u) + ") with all nine", desk.closure(1 << u), 1 << u);
        }
    }

    // ---- Promise 17

    private static void noneBeforeFull() {
        sentence("17", "add: NONE is tested before FULL.");
        ClosureDesk desk = nineOf(1);
        for (int worth : NO_WORTHS) {
            due("add(" + worth + ") to nine", desk.add(worth), NONE);
        }
        for (int worth : END_WORTHS) {
            due("add(" + worth + ") to nine", desk.add(worth), FULL);
        }
        due("undertakings() after them", desk.undertakings(), 511);
        due("best() after them", desk.best(), 9);
    }

    // ---- Promises 6, 7 and 8

    private static void undertakingsFromNoneToNine() {
        sentence("6", "The undertakings: bit u for undertaking u.");
        ClosureDesk desk = new ClosureDesk();
        due("undertakings() of none", desk.undertakings(), 0);
        for (int u = 0; u < 9; u++) {
            desk.add(-u);
            due("undertakings() of 0 .. " + u, desk.undertakings(), (2 << u) - 1);
        }
        for (int u = 0; u < 9; u++) {
            desk.remove(u);
            due("undertakings() without " + u, desk.undertakings(), 511 - (1 << u));
            desk.add(0);
        }
    }

    private static void closedOnlyOfPresentOnes() {
        sentence("7", "Whether the set is a closed set of present undertakings.");
        ClosureDesk desk = deskOf(1, 1, 1);
        desk.remove(1);
        due("closed(5)", desk.closed(5), true);
        due("closed(7), with one that is gone", desk.closed(7), false);
        due("closed(2), one that is gone", desk.closed(2), false);
        due("closed(8), one never there", desk.closed(8), false);
        due("closed(256), one never there", desk.closed(256), false);
        due("closed(512)", desk.closed(512), false);
        due("closed(MIN)", desk.closed(MIN), false);
        due("closed(MAX)", desk.closed(MAX), false);
        due("closed(-1)", desk.closed(-1), false);
        due("add(1)", desk.add(1), 1);
        due("closed(7), with one that is back", desk.closed(7), true);
    }

    private static void closedAtTheFullSet() {
        sentence("7", "Whether the set is a closed set of present undertakings.");
        due("closed(511) of nine without needs", nineOf(0).closed(511), true);
        ClosureDesk ring = ringOfNine(-1);
        due("closed(511) of a ring of nine", ring.closed(511), true);
        due("closed(510) of a ring of nine", ring.closed(510), false);
        due("closed(255) of a ring of nine", ring.closed(255), false);
        ring.remove(4);
        due("closed(511) when one is gone", ring.closed(511), false);
        due("closed(495) when one is gone", ring.closed(495), true);
        due("closed(8), the need for the gone one is gone", ring.closed(8), true);
    }

    private static void closureTakesPresentOnesOnly() {
        sentence("8", "The least closed set that has all present undertakings of the set in it.");
        ClosureDesk desk = deskOf(1, 1, 1, 1);
        desk.need(0, 1, true);
        desk.need(1, 2, true);
        due("closure(1)", desk.closure(1), 7);
        desk.remove(1);
        due("closure(1), the chain is broken", desk.closure(1), 1);
        due("closure(2), one that is gone", desk.closure(2), 0);
        due("closure(11), with one that is gone", desk.closure(11), 9);
        due("closure(511)", desk.closure(511), 13);
        due("closure(512)", desk.closure(512), 0);
        due("closure(513)", desk.closure(513), 1);
        due("closure(MIN)", desk.closure(MIN), 0);
        due("closure(MIN | 4)", desk.closure(MIN | 4), 4);
        due("closure(MAX)", desk.closure(MAX), 13);
        due("closure(-1)", desk.closure(-1), 13);
    }

    private static void closureOfTheEmptyAndTheFullSet() {
        sentence("8", "The least closed set that has all present undertakings of the set in it.");
        due("closure(0) with none", new ClosureDesk().closure(0), 0);
        due("closure(511) with none", new ClosureDesk().closure(511), 0);
        due("closure(0) with nine", nineOf(50).closure(0), 0);
        due("closure(511) with nine", nineOf(-50).closure(511), 511);
        for (int u = 0; u < 9; u++) {
            due("closure of " + u + " in a ring of nine", ringOfNine(0).closure(1 << u), 511);
            due("closure of " + u + " without needs", nineOf(0).closure(1 << u), 1 << u);
        }
    }

    private static void closureThroughEight() {
        sentence("8", "The least closed set that has all present undertakings of the set in it.");
        ClosureDesk rising = nineOf(0);
        ClosureDesk falling = nineOf(0);
        for (int u = 0; u < 8; u++) {
            rising.need(u, u + 1, true);
            falling.need(u + 1, u, true);
        }
        due("closure(1) through eight needs", rising.closure(1), 511);
        due("closure(256) at the end of them", rising.closure(256), 256);
        due("closure(256) through eight needs", falling.closure(256), 511);
        due("closure(1) at the end of them", falling.closure(1), 1);
    }

    // ---- Promises 9, 10, 11 and 16

    private static void bestAtItsEnds() {
        sentence("9", "The worth of the best sets.");
        due("best() of none", new ClosureDesk().best(), 0);
        due("best() of nine at -50", nineOf(-50).best(), 0);
        due("best() of nine at -1", nineOf(-1).best(), 0);
        due("best() of nine at 0", nineOf(0).best(), 0);
        due("best() of nine at 1", nineOf(1).best(), 9);
        due("best() of nine at 50", nineOf(50).best(), 450);
        due("best() of a ring of nine at 50", ringOfNine(50).best(), 450);
    }

    private static void leastBestAtItsEnds() {
        sentence("10", "The undertakings that are in every best set.");
        due("leastBest() of none", new ClosureDesk().leastBest(), 0);
        due("leastBest() of nine at 1", nineOf(1).leastBest(), 511);
        due("leastBest() of nine at 0", nineOf(0).leastBest(), 0);
        due("leastBest() of nine at -1", nineOf(-1).leastBest(), 0);
        due("leastBest() of a ring of nine at 1", ringOfNine(1).leastBest(), 511);
        due("leastBest() of a ring of nine at 0", ringOfNine(0).leastBest(), 0);
        ClosureDesk desk = nineOf(1);
        desk.remove(8);
        due("leastBest() without one that is gone", desk.leastBest(), 255);
        for (int u = 0; u < 9; u++) {
            ClosureDesk onlyOne = nineOf(-1);
            onlyOne.rate(u, 1);
            due("leastBest() when only " + u + " pays", onlyOne.leastBest(), 1 << u);
            ClosureDesk allButOne = nineOf(1);
            allButOne.rate(u, 0);
            due("leastBest() when all but " + u + " pay", allButOne.leastBest(), 511 - (1 << u));
        }
    }

    private static void greatestBestAtItsEnds() {
        sentence("11", "The undertakings that are in some best set.");
        due("greatestBest() of none", new ClosureDesk().greatestBest(), 0);
        due("greatestBest() of nine at 1", nineOf(1).greatestBest(), 511);
        due("greatestBest() of nine at 0", nineOf(0).greatestBest(), 511);
        due("greatestBest() of nine at -1", nineOf(-1).greatestBest(), 0);
        due("greatestBest() of a ring of nine at 0", ringOfNine(0).greatestBest(), 511);
        due("greatestBest() of a ring of nine at -1", ringOfNine(-1).greatestBest(), 0);
        ClosureDesk desk = nineOf(0);
        desk.remove(8);
        due("greatestBest() without one that is gone", desk.greatestBest(), 255);
        for (int u = 0; u < 9; u++) {
            ClosureDesk onlyOne = nineOf(-1);
            onlyOne.rate(u, 0);
            due("greatestBest() when only " + u + " costs nothing", onlyOne.greatestBest(), 1 << u);
            ClosureDesk allButOne = nineOf(0);
            allButOne.rate(u, -1);
            due("greatestBest() when all but " + u + " cost nothing", allButOne.greatestBest(), 511 - (1 << u));
        }
    }

    private static void leastAndGreatestBestAreBest() {
        sentence("10 and 11", "(They are a best set themselves.)");
        // Two pairs that tie and share nothing: neither pair alone is the least or the greatest.
        ClosureDesk desk = deskOf(5, -5, 3, -3, 2);
        desk.need(0, 1, true);
        desk.need(2, 3, true);
        due("leastBest()", desk.leastBest(), 16);
        due("closed(16)", desk.closed(16), true);
        due("greatestBest()", desk.greatestBest(), 31);
        due("closed(31)", desk.closed(31), true);
        due("best()", desk.best(), 2);
        due("choices()", desk.choices(), 4);
    }

    private static void choicesAtTheirEnds() {
        sentence("16", "The number of best sets.");
        due("choices() of none", new ClosureDesk().choices(), 1);
        due("choices() of nine at 0", nineOf(0).choices(), 512);
        due("choices() of nine at 1", nineOf(1).choices(), 1);
        due("choices() of nine at -1", nineOf(-1).choices(), 1);
        due("choices() of a ring of nine at 0", ringOfNine(0).choices(), 2);
        ClosureDesk chain = nineOf(0);
        for (int u = 0; u < 8; u++) {
            chain.need(u, u + 1, true);
        }
        due("choices() of a chain of nine at 0", chain.choices(), 10);
        ClosureDesk gone = nineOf(0);
        gone.remove(0);
        due("choices() of eight at 0", gone.choices(), 256);
    }

    // ---- Promises 12 and 13

    private static void bestWithAtItsEnds() {
        sentence("12", "The greatest worth of a closed set with undertaking u");
        for (int u = 0; u < 9; u++) {
            due("bestWith(" + u + ") of nine at 50", nineOf(50).bestWith(u), 450);
            due("bestWith(" + u + ") of nine at -50", nineOf(-50).bestWith(u), -50);
            due("bestWith(" + u + ") of a ring of nine at -50", ringOfNine(-50).bestWith(u), -450);
            due("bestWith(" + u + ") of nine at 0", nineOf(0).bestWith(u), 0);
        }
    }

    private static void bestWithOfNone() {
        sentence("12", "BAD when there is no undertaking u");
        ClosureDesk desk = deskOf(5, 6, 7);
        due("bestWith(1)", desk.bestWith(1), 18);
        desk.remove(1);
        due("bestWith(1), gone", desk.bestWith(1), BAD);
        due("bestWith(3), never there", desk.bestWith(3), BAD);
        due("bestWith(8), never there", desk.bestWith(8), BAD);
        for (int u : NO_NUMBERS) {
            due("bestWith(" + u + ")", desk.bestWith(u), BAD);
        }
        desk.add(6);
        due("bestWith(1), back", desk.bestWith(1), 18);
    }

    private static void bestWithoutAtItsEnds() {
        sentence("13", "The greatest worth of a closed set without undertaking u");
        for (int u = 0; u < 9; u++) {
            due("bestWithout(" + u + ") of nine at 50", nineOf(50).bestWithout(u), 400);
            due("bestWithout(" + u + ") of nine at -50", nineOf(-50).bestWithout(u), 0);
            due("bestWithout(" + u + ") of a ring of nine at 50", ringOfNine(50).bestWithout(u), 0);
        }
        due("bestWithout(0) of the only one", deskOf(50).bestWithout(0), 0);
    }

    private static void bestWithoutOfNone() {
        sentence("13", "best() when there is no undertaking u");
        due("bestWithout(0) with none", new ClosureDesk().bestWithout(0), 0);
        ClosureDesk desk = deskOf(5, 6, 7, -9);
        due("bestWithout(1)", desk.bestWithout(1), 12);
        desk.remove(1);
        desk.need(2, 3, true);
        due("best()", desk.best(), 5);
        due("bestWithout(1), gone", desk.bestWithout(1), 5);
        due("bestWithout(4), never there", desk.bestWithout(4), 5);
        due("bestWithout(8), never there", desk.bestWithout(8), 5);
        for (int u : NO_NUMBERS) {
            due("bestWithout(" + u + ")", desk.bestWithout(u), 5);
        }
    }

    // ---- Promise 14

    private static void thresholdAtFifty() {
        sentence("14", "The least worth, from -50 to 50");
        ClosureDesk desk = deskOf(0, -49);
        desk.need(0, 1, true);
        due("threshold(0) that needs -49", desk.threshold(0), 49);
        desk.rate(1, -50);
        due("threshold(0) that needs -50", desk.threshold(0), 50);
        desk.rate(0, 50);
        due("greatestBest() with worth 50", desk.greatestBest(), 3);
        desk.rate(0, 49);
        due("greatestBest() with worth 49", desk.greatestBest(), 0);
    }

    private static void thresholdPastFifty() {
        sentence("14", "51 when there is none");
        ClosureDesk desk = deskOf(50, -50, -1);
        desk.need(0, 1, true);
        desk.need(0, 2, true);
        due("threshold(0) that needs -50 and -1", desk.threshold(0), 51);
        due("greatestBest() with worth 50", desk.greatestBest(), 0);
        desk.rate(2, -2);
        due("threshold(0) that needs -50 and -2", desk.threshold(0), 51);
        for (int u = 0; u < 9; u++) {
            due("threshold(" + u + ") in a ring of nine at -50", ringOfNine(-50).threshold(u), 51);
        }
    }

    private static void thresholdAtMinusFifty() {
        sentence("14", "The least worth, from -50 to 50");
        ClosureDesk desk = deskOf(0, 49);
        desk.need(1, 0, true);
        due("threshold(0) that 49 needs", desk.threshold(0), -49);
        desk.rate(1, 50);
        due("threshold(0) that 50 needs", desk.threshold(0), -50);
        desk.rate(0, -50);
        due("greatestBest() with worth -50", desk.greatestBest(), 3);
        desk.add(1);
        desk.need(2, 0, true);
        due("threshold(0) that 50 and 1 need", desk.threshold(0), -50);
        for (int u = 0; u < 9; u++) {
            due("threshold(" + u + ") in a ring of nine at 50", ringOfNine(50).threshold(u), -50);
        }
    }

    private static void thresholdLeavesItsOwnWorthOut() {
        sentence("14", "with which undertaking u would be in some best set, all else as it is");
        ClosureDesk desk = deskOf(0, -8, 3);
        desk.need(0, 1, true);
        for (int worth = -50; worth <= 50; worth++) {
            desk.rate(0, worth);
            due("threshold(0) at worth " + worth, desk.threshold(0), 8);
            due("bestWith(0) after it", desk.bestWith(0), worth - 8 + 3);
        }
    }

    private static void thresholdIsTheLeast() {
        sentence("14", "The least worth ... with which undertaking u would be in some best set");
        due("threshold(0) of the only one", deskOf(-50).threshold(0), 0);
        ClosureDesk desk = deskOf(-50);
        desk.rate(0, 0);
        due("greatestBest() with it", desk.greatestBest(), 1);
        desk.rate(0, -1);
        due("greatestBest() below it", desk.greatestBest(), 0);
        for (int u = 0; u < 9; u++) {
            due("threshold(" + u + ") of nine at 50", nineOf(50).threshold(u), 0);
            due("threshold(" + u + ") of nine at -50", nineOf(-50).threshold(u), 0);
        }
    }

    private static void thresholdOfNone() {
        sentence("14", "BAD when there is no undertaking u");
        ClosureDesk desk = deskOf(5, 6, 7);
        due("threshold(1)", desk.threshold(1), 0);
        desk.remove(1);
        due("threshold(1), gone", desk.threshold(1), BAD);
        due("threshold(3), never there", desk.threshold(3), BAD);
        due("threshold(8), never there", desk.threshold(8), BAD);
        for (int u : NO_NUMBERS) {
            due("threshold(" + u + ")", desk.threshold(u), BAD);
        }
        desk.add(6);
        due("threshold(1), back", desk.threshold(1), 0);
    }

    // ---- Promise 15

    private static void burdenAtItsGreatest() {
        sentence("15", "By how much best() would rise if u did not need v");
        ClosureDesk desk = deskOf(50, 50, 50, 50, 50, -50, -50, -50, -50);
        for (int u = 1; u < 5; u++) {
            desk.need(u, 0, true);
            desk.need(5, 4 + u, true);
        }
        desk.need(0, 5, true);
        due("best()", desk.best(), 50);
        due("burden(0, 5)", desk.burden(0, 5), 200);
        due("best() after it", desk.best(), 50);
        due("burden(0, 5) again", desk.burden(0, 5), 200);
        due("burden(1, 0)", desk.burden(1, 0), 0);
        ClosureDesk costly = deskOf(-1, -1);
        costly.need(0, 1, true);
        due("burden(0, 1) when neither is done", costly.burden(0, 1), 0);
        costly.rate(0, 1);
        due("burden(0, 1) at a tie", costly.burden(0, 1), 1);
    }

    private static void burdenOfNone() {
        sentence("15", "BAD when one is not there");
        ClosureDesk desk = deskOf(9, -3, -2);
        desk.need(0, 1, true);
        desk.need(0, 2, true);
        due("burden(0, 1)", desk.burden(0, 1), 3);
        desk.remove(1);
        int[] absent = {1, 3, 8, 9, -1, 32, 33, MIN, MAX};
        for (int u : absent) {
            due("burden(0, " + u + ")", desk.burden(0, u), BAD);
            due("burden(" + u + ", 0)", desk.burden(u, 0), BAD);
            due("burden(" + u + ", 4), neither is there", desk.burden(u, 4), BAD);
            due("burden(4, " + u + "), neither is there", desk.burden(4, u), BAD);
        }
        due("burden(0, 2)", desk.burden(0, 2), 2);
        due("closure(1)", desk.closure(1), 5);
    }

    private static void burdenOnItself() {
        sentence("15", "BAD when ... u = v");
        ClosureDesk desk = nineOf(1);
        for (int u = 0; u < 9; u++) {
            due("burden(" + u + ", " + u + ")", desk.burden(u, u), BAD);
        }
        for (int u : NO_NUMBERS) {
            due("burden(" + u + ", " + u + ")", desk.burden(u, u), BAD);
        }
    }

    private static void burdenWithoutNeed() {
        sentence("15", "0 when u does not need v");
        ClosureDesk desk = deskOf(9, 0, -4);
        due("burden(0, 2), no need at all", desk.burden(0, 2), 0);
        desk.need(0, 1, true);
        desk.need(1, 2, true);
        due("burden(0, 2), a need through 1 only", desk.burden(0, 2), 0);
        due("burden(2, 1), the other way", desk.burden(2, 1), 0);
        due("burden(1, 2)", desk.burden(1, 2), 4);
        desk.need(1, 2, false);
        due("burden(1, 2), the need is off", desk.burden(1, 2), 0);
        due("closure(1)", desk.closure(1), 3);
        for (int u = 0; u < 9; u++) {
            due("burden of nine without needs", nineOf(-50).burden(u, (u + 1) % 9), 0);
        }
    }

    // ---- What it is

    private static void lastCallThatCounts() {
        sentence("What it is", "An object is used for at most 512 calls after it has been made");
        due("the 512th call, undertakings()", usedUp(511).undertakings(), 511);
        due("the 512th call, add(1)", usedUp(511).add(1), FULL);
        due("the 512th call, remove(8)", usedUp(511).remove(8), true);
        due("the 512th call, rate(8, 51)", usedUp(511).rate(8, 51), false);
        due("the 512th call, need(8, 0, true)", usedUp(511).need(8, 0, true), true);
        due("the 512th call, closed(1)", usedUp(511).closed(1), false);
        due("the 512th call, closure(1)", usedUp(511).closure(1), 257);
        due("the 512th call, best()", usedUp(511).best(), 40);
        due("the 512th call, leastBest()", usedUp(511).leastBest(), 511);
        due("the 512th call, greatestBest()", usedUp(511).greatestBest(), 511);
        due("the 512th call, bestWith(0)", usedUp(511).bestWith(0), 40);
        due("the 512th call, bestWithout(8)", usedUp(511).bestWithout(8), 0);
        due("the 512th call, threshold(8)", usedUp(511).threshold(8), -44);
        due("the 512th call, burden(0, 8)", usedUp(511).burden(0, 8), 0);
        due("the 512th call, choices()", usedUp(511).choices(), 1);
    }

    // 0 .. 6 have worth 5 and 7 has 9; each of them needs 8, which has -4. The calls that are left
    // over go to add, which refuses them all.
    private static ClosureDesk usedUp(int calls) {
        ClosureDesk desk = nineOf(5);
        for (int u = 0; u < 8; u++) {
            desk.need(u, 8, true);
        }
        desk.rate(8, -4);
        desk.rate(7, 9);
        int made = 9 + 8 + 2;
        for (int call = made; call < calls; call++) {
            desk.add(call % 103 - 51);
        }
        return desk;
    }
}
