/** The boundary cases that the document's "Terms" and "What it is" name, each sentence with a test of its own. */
public final class TermsEdgesTest {
    private static final int RIGHT = 0;
    private static final int LEFT = 1;
    private static final int BELOW = 2;
    private static final int ABOVE = 3;
    private static final int DESORB = 64;
    private static final int HOP = 128;

    // The neighbours of site 14, by k, and all the states that they can be in.
    private static final int[] AROUND_14 = {15, 13, 20, 8};
    private static final int WAYS = 81;

    private static final Checks checks = new Checks();

    public static void main(String[] args) {
        columnsWrapToTheRight();
        columnsWrapToTheLeft();
        rowsWrapBelow();
        rowsWrapAbove();
        aRowsEndIsNotBesideTheNextRow();
        insideNothingWraps();
        blockedOnesAreNeverOccupied();
        hopsGoToEmptySitesAlone();
        rateZeroIsNeverPicked();
        rateZeroIsNeverRun();
        leastAndGreatestNumberOfAnEvent();
        anEventOfOneNumber();
        eventsOfAThousandNumbers();
        parametersEndAtAThousand();
        theGreatestTotal();
        theLastOf512Calls();
        eachOf512Calls();
        countsOf512Calls();
        checks.end();
    }

    private static void due(String call, long got, long want) {
        checks.due(call, got, want);
    }

    // "columns counted modulo 6 and rows modulo 8"

    private static void columnsWrapToTheRight() {
        checks.sentence("columns counted modulo 6, to the right");
        int[] from = {5, 11, 17, 23, 29, 35, 41, 47};
        int[] to = {0, 6, 12, 18, 24, 30, 36, 42};
        dueNeighbours(RIGHT, from, to);
    }

    private static void columnsWrapToTheLeft() {
        checks.sentence("columns counted modulo 6, to the left");
        int[] from = {0, 6, 12, 18, 24, 30, 36, 42};
        int[] to = {5, 11, 17, 23, 29, 35, 41, 47};
        dueNeighbours(LEFT, from, to);
    }

    private static void rowsWrapBelow() {
        checks.sentence("rows modulo 8, below");
        int[] from = {42, 43, 44, 45, 46, 47};
        int[] to = {0, 1, 2, 3, 4, 5};
        dueNeighbours(BELOW, from, to);
    }

    private static void rowsWrapAbove() {
        checks.sentence("rows modulo 8, above");
        int[] from = {0, 1, 2, 3, 4, 5};
        int[] to = {42, 43, 44, 45, 46, 47};
        dueNeighbours(ABOVE, from, to);
    }

    private static void dueNeighbours(int k, int[] from, int[] to) {
        for (int i = 0; i < from.length; i++) {
            dueNeighbour(k, from[i], to[i]);
        }
    }

    // D[0] is 10, D[1] is 20, A is 2, H is 3.
    private static void dueNeighbour(int k, int from, int to) {
        String pair = "neighbour " + k + " of " + from;
        KineticLattice x = Lattices.withRisingRates();
        x.set(from, 1);
        due(pair + " empty: siteRate", x.siteRate(from), 10 + 4 * 3);
        x.set(to, 2);
        due(pair + " blocked: siteRate", x.siteRate(from), 10 + 3 * 3);
        x.set(to, 1);
        due(pair + " occupied: siteRate", x.siteRate(from), 20 + 3 * 3);
        due(pair + " occupied: pairs()", x.pairs(), 1);
        x.set(to, 0);
        int r = 2 * from + 10 + 3 * k;
        due(pair + ": hop to it", x.step(r), from + HOP + 256 * k);
        checks.dueOccupied(pair + ": hop to it", x, to);
    }

    private static void aRowsEndIsNotBesideTheNextRow() {
        checks.sentence("columns counted modulo 6, not on into another row");
        int[] ends = {5, 11, 17, 23, 29, 35, 41, 47};
        int[] starts = {6, 12, 18, 24, 30, 36, 42, 0};
        for (int i = 0; i < ends.length; i++) {
            KineticLattice x = Lattices.withRisingRates();
            Lattices.put(x, Lattices.OCCUPIED, ends[i], starts[i]);
            String both = ends[i] + " and " + starts[i];
            due(both + ": siteRate(" + ends[i] + ")", x.siteRate(ends[i]), 10 + 4 * 3);
            due(both + ": siteRate(" + starts[i] + ")", x.siteRate(starts[i]), 10 + 4 * 3);
            due(both + ": pairs()", x.pairs(), 0);
        }
    }

    private static void insideNothingWraps() {
        checks.sentence("the four neighbours, away from the edges");
        for (int row = 1; row <= 6; row++) {
            for (int column = 1; column <= 4; column++) {
                int site = 6 * row + column;
                dueNeighbour(RIGHT, site, site + 1);
                dueNeighbour(LEFT, site, site - 1);
                dueNeighbour(BELOW, site, site + 6);
                dueNeighbour(ABOVE, site, site - 6);
            }
        }
    }

    // The neighbours of 14 are put into the states that the number's four digits to the base 3 tell.
    private static int[] statesOf(int way) {
        return new int[] {way % 3, way / 3 % 3, way / 9 % 3, way / 27};
    }

    private static KineticLattice around14(int[] states) {
        KineticLattice x = Lattices.withRisingRates();
        x.rate(Lattices.A, 0);
        x.set(14, 1);
        for (int k = 0; k < 4; k++) {
            x.set(AROUND_14[k], states[k]);
        }
        return x;
    }

    private static int howMany(int[] states, int state) {
        int found = 0;
        for (int each : states) {
            found += each == state ? 1 : 0;
        }
        return found;
    }

    private static String told(int[] states) {
        return "14 amid " + states[0] + states[1] + states[2] + states[3];
    }

    // H is 0, so that n alone speaks.
    private static void blockedOnesAreNeverOccupied() {
        checks.sentence("n being how many of the four neighbours are occupied (blocked ones never are)");
        for (int way = 0; way < WAYS; way++) {
            int[] states = statesOf(way);
            KineticLattice x = around14(states);
            x.rate(Lattices.H, 0);
            int n = howMany(states, Lattices.OCCUPIED);
            due(told(states) + ": siteRate(14)", x.siteRate(14), 10 + 10 * n);
            due(told(states) + ": pairs()", x.pairs(), n);
            due(told(states) + ": occupied()", x.occupied(), 1 + n);
        }
        KineticLattice x = around14(new int[] {1, 1, 1, 1});
        x.rate(Lattices.H, 0);
        for (int k = 0; k < 4; k++) {
            x.set(AROUND_14[k], 2);
            due(k + 1 + " of four particles blocked: siteRate(14)", x.siteRate(14), 10 + 10 * (3 - k));
        }
    }

    // Every number from the first of 14's first hop to the first after its last one.
    private static void hopsGoToEmptySitesAlone() {
        checks.sentence("for each k whose neighbour is empty and not blocked");
        for (int way = 0; way < WAYS; way++) {
            int[] states = statesOf(way);
            int n = howMany(states, Lattices.OCCUPIED);
            int hops = howMany(states, Lattices.EMPTY);
            due(told(states) + ": siteRate(14)", around14(states).siteRate(14), 10 + 10 * n + 3 * hops);
            int found = 0;
            for (int k = 0; k < 4; k++) {
                if (states[k] == Lattices.EMPTY) {
                    dueHops(states, n, k, found);
                    found++;
                }
            }
        }
    }

    private static void dueHops(int[] states, int n, int k, int hopsBefore) {
        for (int part = 0; part < 3; part++) {
            KineticLattice x = around14(states);
            int r = x.before(14) + 10 + 10 * n + 3 * hopsBefore + part;
            String call = told(states) + ": step(" + r + ")";
            due(call, x.step(r), 14 + HOP + 256 * k);
            due(call + ", state(14)", x.state(14), 0);
            for (int other = 0; other < 4; other++) {
                int want = other == k ? 1 : states[other];
                due(call + ", state(" + AROUND_14[other] + ")", x.state(AROUND_14[other]), want);
            }
        }
    }

    // "Events of rate 0 count too, but are never picked"

    private static KineticLattice particlesWithRates(int d, int a, int h, int... sites) {
        KineticLattice x = Lattices.withRates(d, a, h);
        Lattices.put(x, Lattices.OCCUPIED, sites);
        return x;
    }

    private static void rateZeroIsNeverPicked() {
        checks.sentence("Events of rate 0 count too, but are never picked");
        due("A 0, the first: step(0)", particlesWithRates(5, 0, 0, 20).step(0), DESORB + 20);
        due("A 0, the last: step(4)", particlesWithRates(5, 0, 0, 20).step(4), DESORB + 20);
        due("A 0, past the last: step(5)", particlesWithRates(5, 0, 0, 20).step(5), KineticLattice.BAD_PICK);
        due("A 0 between: step(5)", particlesWithRates(5, 0, 0, 20, 30).step(5), DESORB + 30);
        due("D 0: step(0)", particlesWithRates(0, 0, 5, 20).step(0), HOP + 20);
        due("D 0: step(19)", particlesWithRates(0, 0, 5, 20).step(19), HOP + 768 + 20);
        due("D 0 between: step(20)", particlesWithRates(0, 0, 5, 20, 30).step(20), HOP + 30);
        due("D 0, all sites but one taken: step(0)", allButOneTaken(0, 5).step(0), HOP + 512 + 8);
        due("D and H 0, the first: step(0)", particlesWithRates(0, 6, 0, 0, 1, 2).step(0), 3);
        due("D and H 0, the last: step(269)", particlesWithRates(0, 6, 0, 45, 46, 47).step(269), 44);
        due("D and H 0, past the last: step(270)", particlesWithRates(0, 6, 0, 45, 46, 47).step(270), KineticLattice.BAD_PICK);
        due("H 0: step(9)", particlesWithRates(4, 6, 0, 1).step(9), DESORB + 1);
        due("H 0: step(10)", particlesWithRates(4, 6, 0, 1).step(10), 2);
        KineticLattice x = particlesWithRates(7, 0, 0, 3, 20, 21);
        x.rate(0, 0);
        due("D[0] alone 0: step(0)", x.step(0), DESORB + 20);
        due("all 0: step(0)", particlesWithRates(0, 0, 0, 20).step(0), KineticLattice.BAD_PICK);
    }

    // 14 is empty; the first of its neighbours is 8, whose neighbour number 2 it is.
    private static KineticLattice allButOneTaken(int d, int h) {
        KineticLattice x = Lattices.withRates(d, 0, h);
        Lattices.fill(x, Lattices.OCCUPIED);
        x.set(14, 0);
        return x;
    }

    private static void rateZeroIsNeverRun() {
        checks.sentence("Events of rate 0 are never picked, by run");
        for (int kind = 0; kind < 3; kind++) {
            KineticLattice x = Lattices.withRates(kind == 1 ? 0 : 3, kind == 0 ? 0 : 3, kind == 2 ? 0 : 3);
            Lattices.fillLikeAChessboard(x, 0);
            int made = x.run(200, 77);
            due("kind " + kind + " of rate 0: happened", x.happened(kind), 0);
            due("kind " + kind + " of rate 0: the others", x.happened(0) + x.happened(1) + x.happened(2), made);
        }
    }

    // "the sum of the rates of all events before it is at most r, and with its own rate added above r"

    // 0 and 1 are occupied and 6 is blocked; D[1] is 20, A is 2, H is 3.
    private static KineticLattice twoParticles() {
        KineticLattice x = Lattices.withRisingRates();
        Lattices.put(x, Lattices.OCCUPIED, 0, 1);
        x.set(6, 2);
        return x;
    }

    private static void leastAndGreatestNumberOfAnEvent() {
        checks.sentence("the sum of the rates of all events before it is at most r, and with its own rate added above r");
        int[][] leastGreatestAnswer = {
            {0, 19, DESORB}, {20, 22, HOP + 256}, {23, 25, HOP + 768},
            {26, 45, DESORB + 1}, {46, 48, HOP + 1}, {49, 51, HOP + 512 + 1}, {52, 54, HOP + 768 + 1},
            {55, 56, 2}, {57, 58, 3}, {59, 60, 4}, {61, 62, 5}, {63, 64, 7}, {65, 66, 8},
            {141, 142, 46}, {143, 144, 47}};
        for (int[] event : leastGreatestAnswer) {
            due("the least, step(" + event[0] + ")", twoParticles().step(event[0]), event[2]);
            due("the greatest, step(" + event[1] + ")", twoParticles().step(event[1]), event[2]);
        }
        due("past the last, step(145)", twoParticles().step(145), KineticLattice.BAD_PICK);
    }

    private static void anEventOfOneNumber() {
        checks.sentence("an event of rate 1 has one r");
        for (int r = 0; r < 48; r++) {
            KineticLattice x = new KineticLattice();
            due("step(" + r + ") of a new object", x.step(r), r);
            checks.dueOccupied("step(" + r + ") of a new object", x, r);
        }
    }

    // Site 0 is occupied, 1 empty, and 47 occupied.
    private static void eventsOfAThousandNumbers() {
        checks.sentence("an event of rate 1000 has a thousand r");
        int[] answers = {DESORB, HOP, HOP + 256, HOP + 512, HOP + 768, 1};
        for (int i = 0; i < answers.length; i++) {
            due("step(" + 1000 * i + ")", Lattices.fullOfHops(0).step(1000 * i), answers[i]);
            due("step(" + (1000 * i + 999) + ")", Lattices.fullOfHops(0).step(1000 * i + 999), answers[i]);
        }
        due("step(142999)", Lattices.fullOfHops(0).step(142999), HOP + 512 + 47);
        due("step(143000)", Lattices.fullOfHops(0).step(143000), HOP + 768 + 47);
        due("step(143999)", Lattices.fullOfHops(0).step(143999), HOP + 768 + 47);
    }

    // "All parameters are 0 to 1000; so the total is below 300000"

    private static void parametersEndAtAThousand() {
        checks.sentence("All parameters are 0 to 1000");
        for (int which = 0; which <= 6; which++) {
            KineticLattice x = new KineticLattice();
            due("rate(" + which + ", 0)", x.rate(which, 0), 1);
            due("rate(" + which + ", 1000)", x.rate(which, 1000), 0);
            for (int rate : Lattices.outside(0, 1000)) {
                x.rate(which, rate);
                due("parameter " + which + " after " + rate, Lattices.parameter(x, which), 1000);
            }
        }
    }

    // Each of the 96 pairs of neighbours gives a hop, and each site an ADSORB or a DESORB: no lattice has more.
    private static void theGreatestTotal() {
        checks.sentence("so the total is below 300000");
        for (int odd = 0; odd < 2; odd++) {
            due("total()", Lattices.fullOfHops(odd).total(), 144000);
            due("before(48)", Lattices.fullOfHops(odd).before(48), 144000);
            for (int r : new int[] {144000, 299999, 300000, 1048575}) {
                due("step(" + r + ")", Lattices.fullOfHops(odd).step(r), KineticLattice.BAD_PICK);
            }
            due("run(200, 1)", Lattices.fullOfHops(odd).run(200, 1), 200);
        }
    }

    // "An object is used for at most 512 calls after it has been made"

    // Has had 511 calls, the last three of which leave 3 and 4 occupied; every rate is 1.
    private static KineticLattice beforeItsLastCall() {
        KineticLattice x = new KineticLattice();
        for (int call = 0; call < 508; call++) {
            x.run(200, call);
        }
        x.clear();
        x.set(3, 1);
        x.set(4, 1);
        return x;
    }

    private static void theLastOf512Calls() {
        checks.sentence("An object is used for at most 512 calls: the last one");
        due("rate(6, 9)", beforeItsLastCall().rate(6, 9), 1);
        due("set(3, 2)", beforeItsLastCall().set(3, 2), 1);
        due("step(0)", beforeItsLastCall().step(0), 0);
        due("step(53)", beforeItsLastCall().step(53), 47);
        due("step(54)", beforeItsLastCall().step(54), KineticLattice.BAD_PICK);
        due("run(200, 5)", beforeItsLastCall().run(200, 5), 200);
        due("state(4)", beforeItsLastCall().state(4), 1);
        due("total()", beforeItsLastCall().total(), 46 + 2 * (1 + 3));
        due("siteRate(3)", beforeItsLastCall().siteRate(3), 1 + 3);
        due("occupied()", beforeItsLastCall().occupied(), 2);
        due("pairs()", beforeItsLastCall().pairs(), 1);
        due("before(4)", beforeItsLastCall().before(4), 3 + 4);
        int happened = 0;
        for (int kind = 0; kind < 3; kind++) {
            happened += beforeItsLastCall().happened(kind);
        }
        due("happened of all kinds", happened, 508 * 200);
    }

    private static void eachOf512Calls() {
        checks.sentence("An object is used for at most 512 calls: each one");
        KineticLattice rated = new KineticLattice();
        KineticLattice put = new KineticLattice();
        KineticLattice stepped = new KineticLattice();
        KineticLattice run = new KineticLattice();
        KineticLattice cleared = new KineticLattice();
        for (int call = 0; call < 512; call++) {
            String when = "call " + (call + 1) + ": ";
            due(when + "rate", rated.rate(call % 7, call), call < 7 ? 1 : call - 7);
            due(when + "set", put.set(call % 48, 1 + call / 48 % 2), call < 48 ? 0 : 1 + (call / 48 + 1) % 2);
            due(when + "step", stepped.step(0), call % 2 * DESORB);
            due(when + "run", run.run(1, call), 1);
            switch (call % 4) {
                case 0 -> due(when + "set", cleared.set(call % 48, 1 + call / 4 % 2), 0);
                case 1 -> due(when + "total", cleared.total(), call / 4 % 2 == 0 ? 52 : 47);
                case 2 -> cleared.clear();
                default -> due(when + "total", cleared.total(), 48);
            }
        }
    }

    // One particle that can only hop.
    private static void countsOf512Calls() {
        checks.sentence("An object is used for at most 512 calls: the greatest count");
        KineticLattice x = new KineticLattice();
        x.rate(Lattices.A, 0);
        x.rate(0, 0);
        x.set(9, 1);
        for (int call = 0; call < 508; call++) {
            x.run(200, call);
        }
        due("happened(HOP)", x.happened(KineticLattice.HOP), 508 * 200);
    }
}
