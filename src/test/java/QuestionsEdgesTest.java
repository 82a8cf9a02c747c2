/** The boundary cases that promises 7 to 13 name, each sentence with a test of its own. */
public final class QuestionsEdgesTest {
    private static final int BAD_SITE = KineticLattice.BAD_SITE;

    private static final Checks checks = new Checks();

    public static void main(String[] args) {
        stateAtTheEdges();
        stateRefuses();
        siteRateAtTheEdges();
        siteRateRefuses();
        siteRateLeavesOutHopsToTheSite();
        totalOfAnEmptyLattice();
        totalOfAFullLattice();
        totalOfABlockedLattice();
        occupiedOfAnEmptyLattice();
        occupiedOfAFullLattice();
        pairsOfAnEmptyLattice();
        pairsOfAFullLattice();
        eachPairOnce();
        pairsOfRings();
        happenedAtTheEdges();
        happenedOfAnotherKind();
        beforeAtTheEdges();
        beforeBelowZero();
        beforeAbove48();
        checks.end();
    }

    private static void due(String call, long got, long want) {
        checks.due(call, got, want);
    }

    // Promise 7

    private static void stateAtTheEdges() {
        checks.sentence("7: 0 empty, 1 occupied, 2 blocked");
        for (int site : new int[] {0, 47}) {
            KineticLattice x = new KineticLattice();
            for (int state : new int[] {0, 1, 2, 0}) {
                x.set(site, state);
                due("state(" + site + ")", x.state(site), state);
            }
        }
    }

    private static void stateRefuses() {
        checks.sentence("7: BAD_SITE");
        for (int fill = 0; fill <= 2; fill++) {
            KineticLattice x = new KineticLattice();
            Lattices.fill(x, fill);
            for (int site : Lattices.outside(0, 47)) {
                due("all " + fill + ": state(" + site + ")", x.state(site), BAD_SITE);
            }
        }
    }

    // Promise 9

    private static void siteRateAtTheEdges() {
        checks.sentence("9: The sum of the rates of all events at this site");
        for (int site : new int[] {0, 47}) {
            KineticLattice x = Lattices.withRisingRates();
            due("empty: siteRate(" + site + ")", x.siteRate(site), 2);
            x.set(site, 1);
            due("occupied: siteRate(" + site + ")", x.siteRate(site), 10 + 4 * 3);
            x.set(site, 2);
            due("blocked: siteRate(" + site + ")", x.siteRate(site), 0);
        }
    }

    private static void siteRateRefuses() {
        checks.sentence("9: BAD_SITE");
        for (int fill = 0; fill <= 2; fill++) {
            KineticLattice x = new KineticLattice();
            Lattices.fill(x, fill);
            for (int site : Lattices.outside(0, 47)) {
                due("all " + fill + ": siteRate(" + site + ")", x.siteRate(site), BAD_SITE);
            }
        }
    }

    // The neighbours of 14 come one after another.
    private static void siteRateLeavesOutHopsToTheSite() {
        checks.sentence("9: hops from it, not to it");
        for (int a : new int[] {0, 2, 1000}) {
            KineticLattice x = Lattices.withRisingRates();
            x.rate(Lattices.A, a);
            for (int beside : new int[] {15, 13, 20, 8}) {
                x.set(beside, 1);
                due("empty, A is " + a + ", a particle at " + beside + ": siteRate(14)", x.siteRate(14), a);
                due("the particle's own: siteRate(" + beside + ")", x.siteRate(beside), 10 + 4 * 3);
            }
            x.set(14, 2);
            due("blocked amid particles: siteRate(14)", x.siteRate(14), 0);
            due("beside a blocked site: siteRate(15)", x.siteRate(15), 10 + 3 * 3);
            x.set(14, 1);
            due("occupied amid particles: siteRate(14)", x.siteRate(14), 50);
            due("beside one particle: siteRate(15)", x.siteRate(15), 20 + 3 * 3);
        }
    }

    // Promise 8

    private static void totalOfAnEmptyLattice() {
        checks.sentence("8: total of an empty lattice");
        for (int a : new int[] {0, 1, 1000}) {
            due("A is " + a + ": total()", Lattices.withRates(7, a, 9).total(), 48 * a);
        }
    }

    private static void totalOfAFullLattice() {
        checks.sentence("8: total of a full lattice");
        for (int d : new int[] {0, 1, 1000}) {
            KineticLattice x = Lattices.withRates(7, 5, 9);
            x.rate(4, d);
            Lattices.fill(x, Lattices.OCCUPIED);
            due("D[4] is " + d + ": total()", x.total(), 48 * d);
        }
        for (int site = 0; site < 48; site++) {
            KineticLattice x = Lattices.withRisingRates();
            Lattices.fill(x, Lattices.OCCUPIED);
            x.set(site, 0);
            due("full but for " + site + ": total()", x.total(), 43 * 50 + 4 * (40 + 3) + 2);
        }
    }

    private static void totalOfABlockedLattice() {
        checks.sentence("8: total where every site is blocked");
        KineticLattice x = Lattices.withRates(1000, 1000, 1000);
        Lattices.fill(x, Lattices.BLOCKED);
        due("total()", x.total(), 0);
    }

    // Promise 10

    private static void occupiedOfAnEmptyLattice() {
        checks.sentence("10: occupied of an empty lattice");
        KineticLattice x = new KineticLattice();
        due("occupied()", x.occupied(), 0);
        Lattices.fill(x, Lattices.BLOCKED);
        due("all blocked: occupied()", x.occupied(), 0);
        for (int site = 0; site < 48; site++) {
            x.set(site, 1);
            due("all others blocked: occupied()", x.occupied(), 1);
            x.set(site, 2);
        }
    }

    private static void occupiedOfAFullLattice() {
        checks.sentence("10: occupied of a full lattice");
        KineticLattice x = new KineticLattice();
        Lattices.fill(x, Lattices.OCCUPIED);
        due("occupied()", x.occupied(), 48);
        for (int site = 0; site < 48; site++) {
            x.set(site, site % 2 * 2);
            due("all others full: occupied()", x.occupied(), 47);
            x.set(site, 1);
        }
    }

    // Promise 11

    private static void pairsOfAnEmptyLattice() {
        checks.sentence("11: pairs of an empty lattice");
        KineticLattice x = new KineticLattice();
        due("pairs()", x.pairs(), 0);
        Lattices.fill(x, Lattices.BLOCKED);
        due("all blocked: pairs()", x.pairs(), 0);
        for (int site = 0; site < 48; site++) {
            x.set(site, 1);
            due("all others blocked: pairs()", x.pairs(), 0);
            x.set(site, 2);
        }
    }

    private static void pairsOfAFullLattice() {
        checks.sentence("11: pairs of a full lattice");
        KineticLattice x = new KineticLattice();
        Lattices.fill(x, Lattices.OCCUPIED);
        due("pairs()", x.pairs(), 96);
        for (int site = 0; site < 48; site++) {
            x.set(site, site % 2 * 2);
            due("all others full: pairs()", x.pairs(), 92);
            x.set(site, 1);
        }
    }

    // Every two sites of the lattice, looked at by their columns and rows.
    private static void eachPairOnce() {
        checks.sentence("11: each pair once");
        int found = 0;
        for (int one = 0; one < 48; one++) {
            KineticLattice x = new KineticLattice();
            x.set(one, 1);
            for (int other = one + 1; other < 48; other++) {
                x.set(other, 1);
                int pairs = x.pairs();
                x.set(other, 0);
                due(one + " and " + other + ": pairs()", pairs, areNeighbours(one, other) ? 1 : 0);
                found += pairs;
            }
        }
        due("pairs of all twos", found, 96);
    }

    private static boolean areNeighbours(int one, int other) {
        int columns = Math.abs(one % 6 - other % 6);
        int rows = Math.abs(one / 6 - other / 6);
        boolean columnsTouch = columns == 1 || columns == 5;
        boolean rowsTouch = rows == 1 || rows == 7;
        return columns == 0 && rowsTouch || rows == 0 && columnsTouch;
    }

    private static void pairsOfRings() {
        checks.sentence("11: a whole row and a whole column, each pair once");
        for (int row = 0; row < 8; row++) {
            KineticLattice x = new KineticLattice();
            for (int column = 0; column < 6; column++) {
                due("row " + row + ", " + column + " sites: pairs()", x.pairs(), Math.max(0, column - 1));
                x.set(6 * row + column, 1);
            }
            due("row " + row + ": pairs()", x.pairs(), 6);
        }
        for (int column = 0; column < 6; column++) {
            KineticLattice x = new KineticLattice();
            for (int row = 0; row < 8; row++) {
                due("column " + column + ", " + row + " sites: pairs()", x.pairs(), Math.max(0, row - 1));
                x.set(6 * row + column, 1);
            }
            due("column " + column + ": pairs()", x.pairs(), 8);
        }
    }

    // Promise 12

    // Three have come, one has gone, and there were two hops.
    private static KineticLattice afterSteps() {
        KineticLattice x = Lattices.withRates(10, 2, 3);
        for (int r : new int[] {0, 10, 2, 0, 10, 0}) {
            x.step(r);
        }
        return x;
    }

    private static void happenedAtTheEdges() {
        checks.sentence("12: ADSORB, DESORB or HOP");
        KineticLattice x = afterSteps();
        due("happened(0)", x.happened(0), 3);
        due("happened(1)", x.happened(1), 1);
        due("happened(2)", x.happened(2), 2);
        checks.dueHappened("new", new KineticLattice(), 0, 0, 0);
    }

    private static void happenedOfAnotherKind() {
        checks.sentence("12: 0 for another kind");
        for (int kind : Lattices.outside(0, 2)) {
            due("happened(" + kind + ")", afterSteps().happened(kind), 0);
        }
        for (int kind = 3; kind <= 300; kind++) {
            due("happened(" + kind + ")", afterSteps().happened(kind), 0);
            due("happened(" + -kind + ")", afterSteps().happened(-kind), 0);
        }
    }

    // Promise 13

    // Site 0 has 10 + 3 * 3, site 47 has 10 + 4 * 3, the blocked 1 has 0, and the other 45 have 2 each.
    private static KineticLattice unevenSites() {
        KineticLattice x = Lattices.withRisingRates();
        Lattices.put(x, Lattices.OCCUPIED, 0, 47);
        x.set(1, 2);
        return x;
    }

    private static void beforeAtTheEdges() {
        checks.sentence("13: at sites from 0 to site - 1");
        KineticLattice x = unevenSites();
        due("before(0)", x.before(0), 0);
        due("before(1)", x.before(1), 19);
        due("before(2)", x.before(2), 19);
        due("before(3)", x.before(3), 21);
        due("before(46)", x.before(46), 19 + 44 * 2);
        due("before(47)", x.before(47), 19 + 45 * 2);
        due("before(48)", x.before(48), 19 + 45 * 2 + 22);
    }

    private static void beforeBelowZero() {
        checks.sentence("13: site below 0 counts as 0");
        for (int site : new int[] {-1, -2, -6, -48, Lattices.MIN + 1, Lattices.MIN}) {
            due("before(" + site + ")", unevenSites().before(site), 0);
        }
    }

    private static void beforeAbove48() {
        checks.sentence("13: above 48 as 48");
        for (int site : new int[] {49, 50, 64, 96, Lattices.MAX - 1, Lattices.MAX}) {
            due("before(" + site + ")", unevenSites().before(site), 19 + 45 * 2 + 22);
        }
    }
}
