/** The promises one by one, with answers worked out by hand from the document. */
public final class PromisesTest {
    private static final int MIN = Lattices.MIN;
    private static final int MAX = Lattices.MAX;
    private static final int A = Lattices.A;
    private static final int H = Lattices.H;

    private static final Checks checks = new Checks();

    public static void main(String[] args) {
        aNewObject();
        objectsAreApart();
        rateAnswersTheOldValue();
        rateRefuses();
        rateGovernsItsEvent();
        setAnswersTheOldState();
        setRefuses();
        setIsNoEvent();
        stepPicksByOrderAndRate();
        stepHopsRoundTheRing();
        stepLeavesOutWhatIsTaken();
        stepNeverPicksRateZero();
        stepRefuses();
        stepNeedsATotal();
        runDrawsItsOwnNumbers();
        runBoundsItsLength();
        runStopsAtTotalZero();
        clearEmptiesAndKeepsTheRest();
        stateOfASite();
        totalOfAllRates();
        siteRateOfASite();
        occupiedSites();
        pairsOnce();
        happenedCounts();
        beforeASite();
        siteIsTestedBeforeRate();
        questionsChangeNothing();
        checks.end();
    }

    private static void due(String call, long got, long want) {
        checks.due(call, got, want);
    }

    private static void dueOccupied(String when, KineticLattice x, int... sites) {
        checks.dueOccupied(when, x, sites);
    }

    private static void dueHappened(String when, KineticLattice x, int adsorbed, int desorbed, int hopped) {
        checks.dueHappened(when, x, adsorbed, desorbed, hopped);
    }

    private static KineticLattice withRates(int d, int a, int h) {
        return Lattices.withRates(d, a, h);
    }

    private static void occupy(KineticLattice x, int... sites) {
        Lattices.put(x, Lattices.OCCUPIED, sites);
    }

    private static void block(KineticLattice x, int... sites) {
        Lattices.put(x, Lattices.BLOCKED, sites);
    }

    // Promise 1

    private static void aNewObject() {
        KineticLattice x = new KineticLattice();
        dueOccupied("new", x);
        dueHappened("new", x, 0, 0, 0);
        due("new: total()", x.total(), 48);
        due("new: occupied()", x.occupied(), 0);
        due("new: pairs()", x.pairs(), 0);
        due("new: before(48)", x.before(48), 48);
        for (int which = 0; which <= 6; which++) {
            due("new: rate(" + which + ", 9)", x.rate(which, 9), 1);
        }
    }

    private static void objectsAreApart() {
        KineticLattice x = new KineticLattice();
        KineticLattice y = new KineticLattice();
        x.rate(A, 7);
        x.set(3, 1);
        x.step(0);
        dueOccupied("another object", y);
        dueHappened("another object", y, 0, 0, 0);
        due("another object: total()", y.total(), 48);
    }

    // Promise 2

    private static void rateAnswersTheOldValue() {
        KineticLattice x = new KineticLattice();
        for (int which = 0; which <= 6; which++) {
            due("rate(" + which + ", 1000)", x.rate(which, 1000), 1);
            due("rate(" + which + ", 0)", x.rate(which, 0), 1000);
            due("rate(" + which + ", own)", x.rate(which, 10 + which), 0);
        }
        for (int which = 0; which <= 6; which++) {
            due("rate(" + which + ", 999)", x.rate(which, 999), 10 + which);
        }
    }

    private static void rateRefuses() {
        KineticLattice x = new KineticLattice();
        x.set(9, 1);
        for (int which : new int[] {-1, 7, 8, 64, MIN, MAX}) {
            due("rate(" + which + ", 5)", x.rate(which, 5), KineticLattice.BAD_SITE);
        }
        for (int rate : new int[] {-1, 1001, 1002, MIN, MAX}) {
            for (int which = 0; which <= 6; which++) {
                due("rate(" + which + ", " + rate + ")", x.rate(which, rate), KineticLattice.BAD_RATE);
            }
        }
        due("refused rates: total()", x.total(), 47 + 1 + 4);
        for (int which = 0; which <= 6; which++) {
            due("refused rates: rate(" + which + ", 1)", x.rate(which, 1), 1);
        }
    }

    private static void rateGovernsItsEvent() {
        int[] around = {15, 13, 20, 8};
        for (int n = 0; n <= 4; n++) {
            KineticLattice x = new KineticLattice();
            for (int which = 0; which <= 4; which++) {
                x.rate(which, 100 + which);
            }
            x.rate(A, 30);
            x.rate(H, 7);
            x.set(14, 1);
            for (int k = 0; k < n; k++) {
                x.set(around[k], 1);
            }
            due("D[" + n + "] with its hops", x.siteRate(14), 100 + n + (4 - n) * 7);
            due("A at an empty site", x.siteRate(0), 30);
        }
    }

    // Promise 3

    private static void setAnswersTheOldState() {
        for (int site = 0; site < 48; site++) {
            KineticLattice x = new KineticLattice();
            int[] order = {0, 1, 1, 2, 2, 0, 2, 1, 0};
            int old = 0;
            for (int state : order) {
                due("set(" + site + ", " + state + ")", x.set(site, state), old);
                due("state(" + site + ")", x.state(site), state);
                due("occupied()", x.occupied(), state == 1 ? 1 : 0);
                old = state;
            }
            dueOccupied("set at " + site, x);
        }
    }

    private static void setRefuses() {
        KineticLattice x = new KineticLattice();
        x.set(0, 1);
        x.set(47, 1);
        for (int site : new int[] {-1, 48, 49, 64, MIN, MAX}) {
            due("set(" + site + ", 1)", x.set(site, 1), KineticLattice.BAD_SITE);
        }
        for (int state : new int[] {-1, 3, 4, MIN, MAX}) {
            due("set(0, " + state + ")", x.set(0, state), KineticLattice.BAD_RATE);
            due("set(47, " + state + ")", x.set(47, state), KineticLattice.BAD_RATE);
            due("set(5, " + state + ")", x.set(5, state), KineticLattice.BAD_RATE);
        }
        dueOccupied("refused sets", x, 0, 47);
    }

    private static void setIsNoEvent() {
        KineticLattice x = new KineticLattice();
        x.set(4, 1);
        x.set(4, 0);
        x.set(4, 2);
        dueHappened("after set", x, 0, 0, 0);
    }

    // Promise 4

    private static void dueStep(int site, int r, int answer, int... occupiedAfter) {
        KineticLattice x = withRates(10, 2, 3);
        x.set(site, 1);
        String when = "particle at " + site + ", step(" + r + ")";
        due(when, x.step(r), answer);
        dueOccupied(when, x, occupiedAfter);
        int kind = answer / 64 % 4;
        dueHappened(when, x, kind == 0 ? 1 : 0, kind == 1 ? 1 : 0, kind == 2 ? 1 : 0);
    }

    // A is 2, D is 10, H is 3: the first and the last number of each event.
    private static void stepPicksByOrderAndRate() {
        dueStep(0, 0, 64);
        dueStep(0, 9, 64);
        dueStep(0, 10, 128, 1);
        dueStep(0, 12, 128, 1);
        dueStep(0, 13, 128 + 256, 5);
        dueStep(0, 15, 128 + 256, 5);
        dueStep(0, 16, 128 + 512, 6);
        dueStep(0, 18, 128 + 512, 6);
        dueStep(0, 19, 128 + 768, 42);
        dueStep(0, 21, 128 + 768, 42);
        dueStep(0, 22, 1, 0, 1);
        dueStep(0, 23, 1, 0, 1);
        dueStep(0, 24, 2, 0, 2);
        dueStep(0, 114, 47, 0, 47);
        dueStep(0, 115, 47, 0, 47);
        dueStep(14, 27, 13, 13, 14);
        dueStep(14, 28, 64 + 14);
        dueStep(14, 37, 64 + 14);
        dueStep(14, 38, 128 + 14, 15);
        dueStep(14, 49, 128 + 768 + 14, 8);
        dueStep(14, 50, 15, 14, 15);
    }

    private static void stepHopsRoundTheRing() {
        dueStep(47, 94 + 10, 128 + 47, 42);
        dueStep(47, 94 + 13, 128 + 256 + 47, 46);
        dueStep(47, 94 + 16, 128 + 512 + 47, 5);
        dueStep(47, 94 + 19, 128 + 768 + 47, 41);
        dueStep(5, 10 + 10, 128 + 5, 0);
        dueStep(5, 10 + 13, 128 + 256 + 5, 4);
        dueStep(5, 10 + 16, 128 + 512 + 5, 11);
        dueStep(5, 10 + 19, 128 + 768 + 5, 47);
        dueStep(42, 84 + 10, 128 + 42, 43);
        dueStep(42, 84 + 13, 128 + 256 + 42, 47);
        dueStep(42, 84 + 16, 128 + 512 + 42, 0);
        dueStep(42, 84 + 19, 128 + 768 + 42, 36);
    }

    private static void stepLeavesOutWhatIsTaken() {
        // Of the neighbours of 14 the right one is occupied and the left one blocked.
        int[] answers = {64 + 14, 128 + 512 + 14, 128 + 768 + 14};
        int[] firsts = {0, 4, 7};
        for (int i = 0; i < answers.length; i++) {
            KineticLattice x = withRates(10, 0, 3);
            x.rate(1, 4);
            occupy(x, 14, 15);
            block(x, 13);
            due("step(" + firsts[i] + ") beside taken sites", x.step(firsts[i]), answers[i]);
        }
        KineticLattice x = withRates(10, 0, 3);
        x.rate(1, 4);
        occupy(x, 14, 15);
        block(x, 13);
        due("the other particle", x.step(10), 64 + 15);
        due("the blocked site", x.state(13), 2);
    }

    private static void stepNeverPicksRateZero() {
        KineticLattice x = withRates(0, 0, 5);
        x.set(20, 1);
        due("D is 0: step(0)", x.step(0), 128 + 20);
        x = withRates(5, 0, 0);
        x.set(20, 1);
        due("A and H are 0: step(4)", x.step(4), 64 + 20);
        x = withRates(0, 6, 0);
        occupy(x, 0, 1, 2);
        due("D and H are 0: step(0)", x.step(0), 3);
    }

    private static void stepRefuses() {
        KineticLattice x = withRates(10, 2, 3);
        x.set(0, 1);
        for (int r : new int[] {-1, -2, 116, 117, 1000000, MIN, MAX}) {
            due("step(" + r + ") of 116", x.step(r), KineticLattice.BAD_PICK);
        }
        dueOccupied("refused steps", x, 0);
        dueHappened("refused steps", x, 0, 0, 0);
        due("step(115) of 116", x.step(115), 47);
    }

    private static void stepNeedsATotal() {
        KineticLattice x = withRates(0, 0, 0);
        x.set(8, 1);
        due("total 0: step(0)", x.step(0), KineticLattice.BAD_PICK);
        dueOccupied("total 0", x, 8);
    }

    // Promise 5

    private static void runDrawsItsOwnNumbers() {
        // 1 becomes 1103527590, which gives 116350, of 48 the remainder 46.
        KineticLattice x = new KineticLattice();
        due("run(1, 1)", x.run(1, 1), 1);
        dueOccupied("run(1, 1)", x, 46);
        dueHappened("run(1, 1)", x, 1, 0, 0);
        for (int seed : new int[] {0, 1, -1, 7, 123456789, -987654321, MIN, MAX}) {
            runIsItsSteps(seed, 50);
            runIsItsSteps(seed, 200);
        }
    }

    private static void runIsItsSteps(int seed, int n) {
        KineticLattice whole = withRates(20, 30, 40);
        KineticLattice single = withRates(20, 30, 40);
        due("run(" + n + ", " + seed + ")", whole.run(n, seed), n);
        long x = seed;
        for (int i = 0; i < n; i++) {
            x = (x * 1103515245L + 12345L) & 0xffffffffL;
            single.step((int) (x / 256 % 1048576 % single.total()));
        }
        for (int site = 0; site < 48; site++) {
            due("run(" + n + ", " + seed + "): state(" + site + ")", whole.state(site), single.state(site));
        }
        for (int kind = 0; kind < 3; kind++) {
            due("run(" + n + ", " + seed + "): happened(" + kind + ")", whole.happened(kind), single.happened(kind));
        }
    }

    private static void runBoundsItsLength() {
        int[] lengths = {MIN, -200, -1, 0, 1, 199, 200, 201, 1000, MAX};
        int[] made = {0, 0, 0, 0, 1, 199, 200, 200, 200, 200};
        for (int i = 0; i < lengths.length; i++) {
            KineticLattice x = new KineticLattice();
            due("run(" + lengths[i] + ", 5)", x.run(lengths[i], 5), made[i]);
            due("events of it", x.happened(0) + x.happened(1) + x.happened(2), made[i]);
        }
    }

    private static void runStopsAtTotalZero() {
        KineticLattice x = withRates(0, 0, 0);
        occupy(x, 1, 2);
        due("total 0: run(10, 3)", x.run(10, 3), 0);
        dueOccupied("total 0: run", x, 1, 2);
        x = withRates(9, 0, 0);
        occupy(x, 1, 2, 30);
        due("three particles leave: run(10, 3)", x.run(10, 3), 3);
        dueOccupied("three particles leave", x);
        dueHappened("three particles leave", x, 0, 3, 0);
        x = withRates(9, 0, 0);
        occupy(x, 1, 2, 30);
        due("three particles leave: run(3, 3)", x.run(3, 3), 3);
    }

    // Promise 6

    private static void clearEmptiesAndKeepsTheRest() {
        KineticLattice x = withRates(11, 12, 13);
        for (int site = 0; site < 48; site++) {
            x.set(site, site % 3);
        }
        x.run(20, 4);
        int adsorbed = x.happened(0);
        int desorbed = x.happened(1);
        int hopped = x.happened(2);
        x.clear();
        dueOccupied("clear", x);
        dueHappened("clear", x, adsorbed, desorbed, hopped);
        due("clear keeps some count", x.happened(0) + x.happened(1) + x.happened(2), 20);
        due("clear: total()", x.total(), 48 * 12);
        due("clear: occupied()", x.occupied(), 0);
        due("clear: rate(0, 1)", x.rate(0, 1), 11);
        due("clear: rate(6, 1)", x.rate(H, 1), 13);
    }

    // Promise 7

    private static void stateOfASite() {
        KineticLattice x = new KineticLattice();
        x.set(0, 2);
        x.set(47, 1);
        due("state(0)", x.state(0), 2);
        due("state(47)", x.state(47), 1);
        due("state(1)", x.state(1), 0);
        for (int site : new int[] {-1, 48, 49, MIN, MAX}) {
            due("state(" + site + ")", x.state(site), KineticLattice.BAD_SITE);
        }
    }

    // Promise 8

    private static void totalOfAllRates() {
        KineticLattice x = withRates(10, 2, 3);
        due("all empty: total()", x.total(), 96);
        x.set(0, 1);
        due("a particle: total()", x.total(), 94 + 10 + 12);
        x.set(1, 1);
        due("two beside each other: total()", x.total(), 92 + 2 * (10 + 9));
        x.set(5, 2);
        due("a blocked site: total()", x.total(), 90 + 10 + 6 + 10 + 9);
        for (int site = 0; site < 48; site++) {
            x.set(site, 2);
        }
        due("all blocked: total()", x.total(), 0);
        for (int site = 0; site < 48; site++) {
            x.set(site, 1);
        }
        due("all occupied: total()", x.total(), 480);
        greatestTotal();
    }

    // No occupied site has an occupied neighbour: every particle may go everywhere.
    private static void greatestTotal() {
        KineticLattice x = Lattices.fullOfHops(0);
        due("the greatest total()", x.total(), 24 * 5000 + 24 * 1000);
        due("step at its end", x.step(143999), 128 + 768 + 47);
    }

    // Promise 9

    private static void siteRateOfASite() {
        KineticLattice x = withRates(10, 2, 3);
        x.rate(1, 20);
        occupy(x, 0, 1);
        block(x, 6);
        due("siteRate(0), one neighbour occupied, one blocked", x.siteRate(0), 20 + 6);
        due("siteRate(1), one neighbour occupied", x.siteRate(1), 20 + 9);
        due("siteRate(5), empty beside a particle", x.siteRate(5), 2);
        due("siteRate(6), blocked", x.siteRate(6), 0);
        due("siteRate(47), empty", x.siteRate(47), 2);
        for (int site : new int[] {-1, 48, 49, MIN, MAX}) {
            due("siteRate(" + site + ")", x.siteRate(site), KineticLattice.BAD_SITE);
        }
    }

    // Promise 10

    private static void occupiedSites() {
        KineticLattice x = new KineticLattice();
        occupy(x, 0, 47, 13);
        block(x, 20, 21);
        due("occupied()", x.occupied(), 3);
        x.set(13, 2);
        due("occupied() after blocking one", x.occupied(), 2);
        for (int site = 0; site < 48; site++) {
            x.set(site, 1);
        }
        due("occupied() of all", x.occupied(), 48);
    }

    // Promise 11

    private static void pairsOnce() {
        for (int site = 0; site < 48; site++) {
            int right = site / 6 * 6 + (site + 1) % 6;
            int below = (site + 6) % 48;
            KineticLattice x = new KineticLattice();
            occupy(x, site, right);
            due("pairs() of " + site + " and " + right, x.pairs(), 1);
            x.set(below, 1);
            due("pairs() with " + below, x.pairs(), 2);
            x.set(site, 2);
            due("pairs() with " + site + " blocked", x.pairs(), 0);
            x.set(site, 1);
            block(x, right, below);
            due("pairs() of " + site + " beside blocked sites", x.pairs(), 0);
        }
        KineticLattice x = new KineticLattice();
        occupy(x, 0, 7, 47, 40);
        due("pairs() of a diagonal", x.pairs(), 0);
        x.clear();
        occupy(x, 5, 6);
        due("pairs() of a row's end and the next row's start", x.pairs(), 0);
        for (int site = 0; site < 48; site++) {
            x.set(site, 1);
        }
        due("pairs() of all", x.pairs(), 96);
    }

    // Promise 12

    private static void happenedCounts() {
        KineticLattice x = withRates(10, 2, 3);
        x.step(0);
        dueHappened("one adsorbed", x, 1, 0, 0);
        x.step(10);
        dueHappened("it hopped", x, 1, 0, 1);
        x.step(2);
        dueHappened("it left", x, 1, 1, 1);
        x.step(-1);
        x.set(3, 1);
        dueHappened("no step made", x, 1, 1, 1);
        for (int kind : new int[] {-1, 3, 4, 64, MIN, MAX}) {
            due("happened(" + kind + ")", x.happened(kind), 0);
        }
        happenedOverALongLife();
    }

    private static void happenedOverALongLife() {
        KineticLattice x = new KineticLattice();
        for (int call = 0; call < 509; call++) {
            x.run(200, call);
        }
        int all = x.happened(0) + x.happened(1) + x.happened(2);
        due("events of 509 runs", all, 509 * 200);
    }

    // Promise 13

    private static void beforeASite() {
        KineticLattice x = withRates(10, 2, 3);
        x.set(2, 1);
        x.set(4, 2);
        int[] sites = {MIN, -1, 0, 1, 2, 3, 4, 5, 6, 47, 48, 49, MAX};
        int[] sums = {0, 0, 0, 2, 4, 26, 28, 28, 30, 112, 114, 114, 114};
        for (int i = 0; i < sites.length; i++) {
            due("before(" + sites[i] + ")", x.before(sites[i]), sums[i]);
        }
        due("before(48) is the total", x.total(), 114);
    }

    // Promise 14

    private static void siteIsTestedBeforeRate() {
        KineticLattice x = new KineticLattice();
        for (int bad : new int[] {MIN, -1, 1001, MAX}) {
            due("rate(-1, " + bad + ")", x.rate(-1, bad), KineticLattice.BAD_SITE);
            due("rate(7, " + bad + ")", x.rate(7, bad), KineticLattice.BAD_SITE);
            due("set(-1, " + bad + ")", x.set(-1, bad), KineticLattice.BAD_SITE);
            due("set(48, " + bad + ")", x.set(48, bad), KineticLattice.BAD_SITE);
        }
    }

    // "The calls below change nothing."
    private static void questionsChangeNothing() {
        KineticLattice x = withRates(10, 2, 3);
        KineticLattice y = withRates(10, 2, 3);
        x.run(30, 8);
        y.run(30, 8);
        for (int i = -1; i <= 49; i++) {
            y.state(i);
            y.siteRate(i);
            y.before(i);
            y.happened(i);
        }
        y.total();
        y.occupied();
        y.pairs();
        due("run after questions", y.run(30, 9), x.run(30, 9));
        for (int site = 0; site < 48; site++) {
            due("after questions: state(" + site + ")", y.state(site), x.state(site));
        }
        dueHappened("after questions", y, x.happened(0), x.happened(1), x.happened(2));
    }
}
