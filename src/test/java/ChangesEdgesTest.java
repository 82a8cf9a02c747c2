import java.util.function.ToIntFunction;

/** The boundary cases that promises 1 to 6 and 14 name, each sentence with a test of its own. */
public final class ChangesEdgesTest {
    private static final int BAD_SITE = KineticLattice.BAD_SITE;
    private static final int BAD_RATE = KineticLattice.BAD_RATE;
    private static final int BAD_PICK = KineticLattice.BAD_PICK;

    private static final Checks checks = new Checks();

    public static void main(String[] args) {
        allSitesAreEmpty();
        aIsOne();
        hIsOne();
        everyDIsOne();
        rateAtTheEdges();
        rateRefusesWhich();
        rateRefusesRate();
        rateRefusedChangesNothing();
        setAtTheEdges();
        setRefusesSite();
        setRefusesState();
        setRefusedChangesNothing();
        blockingTakesTheParticle();
        stepAtTheEdges();
        stepRefusesNegative();
        stepRefusesTheTotal();
        stepRefusedChangesNothing();
        runOfNoSteps();
        runOfMostSteps();
        runWraps();
        runAtTheEdgesOfItsNumbers();
        runWithoutATotal();
        runUntilTheTotalIsZero();
        clearEmptiesAllSites();
        clearEmptiesBlockedSites();
        clearKeepsCounts();
        clearKeepsParameters();
        rateTestsSiteFirst();
        setTestsSiteFirst();
        checks.end();
    }

    private static void due(String call, long got, long want) {
        checks.due(call, got, want);
    }

    private static void dueUnchanged(String call, ToIntFunction<KineticLattice> made) {
        KineticLattice x = Lattices.busy();
        made.applyAsInt(x);
        checks.dueAlike("after " + call, x, Lattices.busy());
    }

    // Promise 1

    private static void allSitesAreEmpty() {
        checks.sentence("1: All sites are empty and not blocked");
        KineticLattice x = new KineticLattice();
        checks.dueOccupied("new", x);
        for (int site = 0; site < 48; site++) {
            due("new: set(" + site + ", 1)", x.set(site, 1), 0);
        }
        due("new, each site once: step(48)", new KineticLattice().step(48), BAD_PICK);
        due("new: occupied()", new KineticLattice().occupied(), 0);
    }

    private static void aIsOne() {
        checks.sentence("1: A is 1");
        KineticLattice x = new KineticLattice();
        for (int site = 0; site < 48; site++) {
            due("new: siteRate(" + site + ")", x.siteRate(site), 1);
        }
        due("new: total()", x.total(), 48);
        due("new: rate(5, 9)", x.rate(Lattices.A, 9), 1);
    }

    private static void hIsOne() {
        checks.sentence("1: H is 1");
        KineticLattice x = new KineticLattice();
        x.rate(0, 0);
        x.set(14, 1);
        due("new but for D[0], which is 0: siteRate(14)", x.siteRate(14), 4);
        due("new: rate(6, 9)", x.rate(Lattices.H, 9), 1);
    }

    private static void everyDIsOne() {
        checks.sentence("1: every D[n] is 1");
        int[] around = {15, 13, 20, 8};
        KineticLattice x = new KineticLattice();
        x.rate(Lattices.H, 0);
        x.set(14, 1);
        for (int n = 0; n <= 4; n++) {
            due("new but for H, which is 0, n is " + n + ": siteRate(14)", x.siteRate(14), 1);
            x.set(around[n % 4], 1);
        }
        for (int n = 0; n <= 4; n++) {
            due("new: rate(" + n + ", 9)", x.rate(n, 9), 1);
        }
    }

    // Promise 2

    private static void rateAtTheEdges() {
        checks.sentence("2: which 0 to 6, rate 0 to 1000");
        for (int which : new int[] {0, 6}) {
            KineticLattice x = new KineticLattice();
            due("rate(" + which + ", 0)", x.rate(which, 0), 1);
            due("rate(" + which + ", 1000)", x.rate(which, 1000), 0);
            due("rate(" + which + ", 1)", x.rate(which, 1), 1000);
        }
    }

    private static void rateRefusesWhich() {
        checks.sentence("2: which not in 0 to 6: BAD_SITE");
        for (int which : Lattices.outside(0, 6)) {
            for (int rate : new int[] {0, 5, 1000}) {
                due("rate(" + which + ", " + rate + ")", Lattices.busy().rate(which, rate), BAD_SITE);
            }
        }
    }

    private static void rateRefusesRate() {
        checks.sentence("2: rate not in 0 to 1000: BAD_RATE");
        for (int rate : Lattices.outside(0, 1000)) {
            for (int which = 0; which <= 6; which++) {
                due("rate(" + which + ", " + rate + ")", Lattices.busy().rate(which, rate), BAD_RATE);
            }
        }
    }

    private static void rateRefusedChangesNothing() {
        checks.sentence("2: nothing changes then");
        for (int which : Lattices.outside(0, 6)) {
            dueUnchanged("rate(" + which + ", 5)", x -> x.rate(which, 5));
            dueUnchanged("rate(" + which + ", 1001)", x -> x.rate(which, 1001));
        }
        for (int rate : Lattices.outside(0, 1000)) {
            for (int which = 0; which <= 6; which++) {
                int each = which;
                dueUnchanged("rate(" + which + ", " + rate + ")", x -> x.rate(each, rate));
            }
        }
    }

    // Promise 3

    private static void setAtTheEdges() {
        checks.sentence("3: site 0 to 47, state 0 to 2");
        for (int site : new int[] {0, 47}) {
            KineticLattice x = new KineticLattice();
            due("set(" + site + ", 2)", x.set(site, 2), 0);
            due("set(" + site + ", 0)", x.set(site, 0), 2);
            due("set(" + site + ", 1)", x.set(site, 1), 0);
            checks.dueOccupied("set(" + site + ", 1)", x, site);
        }
    }

    private static void setRefusesSite() {
        checks.sentence("3: site not in 0 to 47: BAD_SITE");
        for (int site : Lattices.outside(0, 47)) {
            for (int state = 0; state <= 2; state++) {
                due("set(" + site + ", " + state + ")", Lattices.busy().set(site, state), BAD_SITE);
            }
        }
    }

    private static void setRefusesState() {
        checks.sentence("3: state not in 0 to 2: BAD_RATE");
        for (int state : Lattices.outside(0, 2)) {
            for (int site = 0; site < 48; site++) {
                due("set(" + site + ", " + state + ")", Lattices.busy().set(site, state), BAD_RATE);
            }
        }
    }

    private static void setRefusedChangesNothing() {
        checks.sentence("3: nothing changes then");
        for (int site : Lattices.outside(0, 47)) {
            for (int state = 0; state <= 3; state++) {
                int each = state;
                dueUnchanged("set(" + site + ", " + state + ")", x -> x.set(site, each));
            }
        }
        for (int state : Lattices.outside(0, 2)) {
            for (int site = 0; site < 48; site++) {
                int each = site;
                dueUnchanged("set(" + site + ", " + state + ")", x -> x.set(each, state));
            }
        }
    }

    private static void blockingTakesTheParticle() {
        checks.sentence("3: blocked (a particle there is gone)");
        for (int site = 0; site < 48; site++) {
            KineticLattice x = new KineticLattice();
            x.set(site, 1);
            String when = "a particle at " + site + " blocked: ";
            due(when + "set(" + site + ", 2)", x.set(site, 2), 1);
            due(when + "state", x.state(site), 2);
            due(when + "occupied()", x.occupied(), 0);
            due(when + "siteRate", x.siteRate(site), 0);
            due(when + "total()", x.total(), 47);
            checks.dueHappened(when, x, 0, 0, 0);
            due(when + "set(" + site + ", 0)", x.set(site, 0), 2);
            checks.dueOccupied(when + "and empty again", x);
        }
    }

    // Promise 4

    // The total is as given: so many empty sites whose rate is A, all others blocked.
    private static KineticLattice emptySites(int many, int a) {
        KineticLattice x = Lattices.withRates(1, a, 1);
        for (int site = many; site < 48; site++) {
            x.set(site, 2);
        }
        return x;
    }

    private static void stepAtTheEdges() {
        checks.sentence("4: r from 0 to the total less 1");
        due("total 1: step(0)", emptySites(1, 1).step(0), 0);
        due("total 48: step(0)", emptySites(48, 1).step(0), 0);
        due("total 48: step(47)", emptySites(48, 1).step(47), 47);
        due("total 48000: step(0)", emptySites(48, 1000).step(0), 0);
        due("total 48000: step(47999)", emptySites(48, 1000).step(47999), 47);
    }

    private static void stepRefusesNegative() {
        checks.sentence("4: r negative: BAD_PICK");
        for (int many : new int[] {0, 1, 48}) {
            due(many + " empty: step(-1)", emptySites(many, 1).step(-1), BAD_PICK);
            due(many + " empty: step(least)", emptySites(many, 1).step(Lattices.MIN), BAD_PICK);
        }
        due("busy: step(-1)", Lattices.busy().step(-1), BAD_PICK);
        due("busy: step(least)", Lattices.busy().step(Lattices.MIN), BAD_PICK);
    }

    private static void stepRefusesTheTotal() {
        checks.sentence("4: r not below the total: BAD_PICK");
        int[][] manyAndA = {{0, 1}, {48, 0}, {1, 1}, {1, 1000}, {48, 1}, {48, 1000}};
        for (int[] each : manyAndA) {
            int total = each[0] * each[1];
            due("step(" + total + ") of it", emptySites(each[0], each[1]).step(total), BAD_PICK);
            due("step(" + (total + 1) + ") of " + total, emptySites(each[0], each[1]).step(total + 1), BAD_PICK);
            due("step(greatest) of " + total, emptySites(each[0], each[1]).step(Lattices.MAX), BAD_PICK);
        }
        KineticLattice full = new KineticLattice();
        full.rate(4, 0);
        Lattices.fill(full, Lattices.OCCUPIED);
        due("full, D[4] is 0: step(0)", full.step(0), BAD_PICK);
    }

    private static void stepRefusedChangesNothing() {
        checks.sentence("4: nothing changes");
        int total = Lattices.busy().total();
        for (int r : Lattices.outside(0, total - 1)) {
            dueUnchanged("step(" + r + ") of " + total, x -> x.step(r));
        }
        KineticLattice x = Lattices.withRates(0, 0, 0);
        x.set(8, 1);
        x.step(0);
        checks.dueOccupied("total 0: step(0)", x, 8);
        checks.dueHappened("total 0: step(0)", x, 0, 0, 0);
    }

    // Promise 5

    private static void runOfNoSteps() {
        checks.sentence("5: n below 0 counts as 0");
        for (int n : new int[] {Lattices.MIN, -200, -1, 0}) {
            due("run(" + n + ", 5)", Lattices.busy().run(n, 5), 0);
            dueUnchanged("run(" + n + ", 5)", x -> x.run(n, 5));
        }
        due("run(1, 5)", Lattices.busy().run(1, 5), 1);
    }

    private static void runOfMostSteps() {
        checks.sentence("5: n above 200 counts as 200");
        KineticLattice least = Lattices.busy();
        due("run(199, 5)", least.run(199, 5), 199);
        due("run(199, 5): steps", least.happened(0) + least.happened(1) + least.happened(2), 3 + 199);
        for (int n : new int[] {200, 201, Lattices.MAX}) {
            KineticLattice x = Lattices.busy();
            KineticLattice most = Lattices.busy();
            due("run(" + n + ", 5)", x.run(n, 5), 200);
            due("run(" + n + ", 5): steps", x.happened(0) + x.happened(1) + x.happened(2), 3 + 200);
            most.run(200, 5);
            checks.dueAlike("run(" + n + ", 5)", x, most);
        }
    }

    // Sites only fill: each step's r picks the empty site number r. Worked out apart, modulo 2 to the 32.
    private static void runWraps() {
        checks.sentence("5: x * 1103515245 + 12345 (wrapping) before every step");
        dueRun(0, 0, 44, 47, 16);
        dueRun(1, 46, 16, 35, 27);
        dueRun(-1, 17, 24, 11, 4);
        dueRun(Lattices.MAX, 17, 24, 11, 4);
        dueRun(Lattices.MIN, 0, 44, 47, 16);
    }

    private static void dueRun(int seed, int... sites) {
        for (int n = 1; n <= sites.length; n++) {
            KineticLattice x = Lattices.withRates(0, 1, 0);
            due("run(" + n + ", " + seed + ")", x.run(n, seed), n);
            checks.dueOccupied("run(" + n + ", " + seed + ")", x, java.util.Arrays.copyOf(sites, n));
        }
    }

    // Seeds whose first number, ahead of the modulo, is at an edge; of each two the second sets x's other bits.
    private static void runAtTheEdgesOfItsNumbers() {
        checks.sentence("5: r is ((x >>> 8) & 1048575) modulo the total");
        int[][] numberAndSeeds = {
            {0, -59267453, 2007572510}, {47, 514797955, -1713329378}, {48, -660957565, 1405882398},
            {49, -1836713085, 230126878}, {1048574, -660546429, 1406293534}, {1048575, -1836301949, 230538014}};
        for (int[] each : numberAndSeeds) {
            for (int many : new int[] {1, 2, 47, 48}) {
                dueFirst(each[1], many, each[0] % many);
                dueFirst(each[2], many, each[0] % many);
            }
        }
        dueRunAtTheGreatestTotal();
    }

    private static void dueFirst(int seed, int many, int site) {
        KineticLattice x = emptySites(many, 1);
        String call = many + " empty: run(1, " + seed + ")";
        due(call, x.run(1, seed), 1);
        due(call + ", occupied()", x.occupied(), 1);
        due(call + ", state(" + site + ")", x.state(site), 1);
    }

    // Of 144000 the number 143999 is 47's hop to 41; the number 144000 counts as 0, which is DESORB at 0.
    private static void dueRunAtTheGreatestTotal() {
        KineticLattice last = Lattices.fullOfHops(0);
        last.run(1, -67583613);
        due("its number is the total less 1: state(47)", last.state(47), 0);
        due("its number is the total less 1: state(41)", last.state(41), 1);
        checks.dueHappened("its number is the total less 1", last, 0, 0, 1);
        KineticLattice first = Lattices.fullOfHops(0);
        first.run(1, -1243339133);
        due("its number is the total: state(0)", first.state(0), 0);
        checks.dueHappened("its number is the total", first, 0, 1, 0);
    }

    private static void runWithoutATotal() {
        checks.sentence("5: if the total is 0 no further step is made, from the start");
        KineticLattice rated = Lattices.withRates(0, 0, 0);
        rated.set(8, 1);
        due("all rates 0: run(200, 3)", rated.run(200, 3), 0);
        checks.dueOccupied("all rates 0", rated, 8);
        checks.dueHappened("all rates 0", rated, 0, 0, 0);
        KineticLattice blocked = new KineticLattice();
        Lattices.fill(blocked, Lattices.BLOCKED);
        due("all blocked: run(1, 3)", blocked.run(1, 3), 0);
        KineticLattice full = new KineticLattice();
        full.rate(4, 0);
        Lattices.fill(full, Lattices.OCCUPIED);
        due("full, D[4] is 0: run(200, 3)", full.run(200, 3), 0);
        due("full, D[4] is 0: run(0, 3)", full.run(0, 3), 0);
        due("full, D[4] is 0: occupied()", full.occupied(), 48);
    }

    private static void runUntilTheTotalIsZero() {
        checks.sentence("5: if the total is 0 no further step is made, on the way");
        int[] lengths = {0, 1, 2, 3, 4, 200, Lattices.MAX};
        int[] made = {0, 1, 2, 3, 3, 3, 3};
        for (int i = 0; i < lengths.length; i++) {
            KineticLattice x = Lattices.withRates(9, 0, 0);
            Lattices.put(x, Lattices.OCCUPIED, 1, 2, 30);
            String call = "three can only go: run(" + lengths[i] + ", 3)";
            due(call, x.run(lengths[i], 3), made[i]);
            due(call + ", occupied()", x.occupied(), 3 - made[i]);
            checks.dueHappened(call, x, 0, made[i], 0);
        }
        KineticLattice x = Lattices.withRates(0, 1, 0);
        due("sites can only fill: run(200, 3)", x.run(200, 3), 48);
        due("sites can only fill: occupied()", x.occupied(), 48);
        due("all are full: run(200, 3)", x.run(200, 3), 0);
    }

    // Promise 6

    private static void clearEmptiesAllSites() {
        checks.sentence("6: Makes all sites empty");
        KineticLattice x = new KineticLattice();
        x.clear();
        checks.dueOccupied("new, then clear", x);
        Lattices.fill(x, Lattices.OCCUPIED);
        x.clear();
        checks.dueOccupied("full, then clear", x);
        due("full, then clear: occupied()", x.occupied(), 0);
        due("full, then clear: pairs()", x.pairs(), 0);
        due("full, then clear: total()", x.total(), 48);
    }

    private static void clearEmptiesBlockedSites() {
        checks.sentence("6: blocked ones too");
        KineticLattice x = new KineticLattice();
        Lattices.fill(x, Lattices.BLOCKED);
        x.clear();
        checks.dueOccupied("all blocked, then clear", x);
        due("all blocked, then clear: total()", x.total(), 48);
        x = Lattices.busy();
        x.clear();
        checks.dueOccupied("busy, then clear", x);
    }

    private static void clearKeepsCounts() {
        checks.sentence("6: Counts stay");
        KineticLattice x = Lattices.busy();
        x.clear();
        checks.dueHappened("busy, then clear", x, 1, 1, 1);
        x.step(0);
        x.clear();
        x.clear();
        checks.dueHappened("a step, then clear twice", x, 2, 1, 1);
    }

    private static void clearKeepsParameters() {
        checks.sentence("6: clear changes no parameter");
        KineticLattice x = new KineticLattice();
        for (int which = 0; which <= 6; which++) {
            x.rate(which, 100 + which);
        }
        x.clear();
        due("clear: total()", x.total(), 48 * 105);
        for (int which = 0; which <= 6; which++) {
            due("clear: rate(" + which + ", 1)", x.rate(which, 1), 100 + which);
        }
    }

    // Promise 14

    private static void rateTestsSiteFirst() {
        checks.sentence("14: rate: BAD_SITE is tested before BAD_RATE");
        for (int which : Lattices.outside(0, 6)) {
            for (int rate : Lattices.outside(0, 1000)) {
                due("rate(" + which + ", " + rate + ")", Lattices.busy().rate(which, rate), BAD_SITE);
            }
        }
    }

    private static void setTestsSiteFirst() {
        checks.sentence("14: set: BAD_SITE is tested before BAD_RATE");
        for (int site : Lattices.outside(0, 47)) {
            for (int state : Lattices.outside(0, 2)) {
                due("set(" + site + ", " + state + ")", Lattices.busy().set(site, state), BAD_SITE);
            }
        }
    }
}
