/** Lattices in a wanted shape, and the edges of a range of numbers. */
final class Lattices {
    static final int MIN = Integer.MIN_VALUE;
    static final int MAX = Integer.MAX_VALUE;
    static final int A = 5;
    static final int H = 6;
    static final int EMPTY = 0;
    static final int OCCUPIED = 1;
    static final int BLOCKED = 2;

    private Lattices() {
    }

    /** The ints just outside a range, and the farthest ones. */
    static int[] outside(int least, int greatest) {
        return new int[] {MIN, least - 1, greatest + 1, MAX};
    }

    static KineticLattice withRates(int d, int a, int h) {
        KineticLattice x = new KineticLattice();
        for (int n = 0; n <= 4; n++) {
            x.rate(n, d);
        }
        x.rate(A, a);
        x.rate(H, h);
        return x;
    }

    /** D[n] is 10, 20, 30, 40, 50; A is 2; H is 3. */
    static KineticLattice withRisingRates() {
        KineticLattice x = withRates(0, 2, 3);
        for (int n = 0; n <= 4; n++) {
            x.rate(n, 10 + 10 * n);
        }
        return x;
    }

    /** Every site state, every kind of event and every parameter is there to be lost. */
    static KineticLattice busy() {
        KineticLattice x = withRisingRates();
        x.step(0);
        x.step(10);
        x.step(2);
        put(x, OCCUPIED, 0, 1, 14, 47);
        put(x, BLOCKED, 6, 15, 42);
        return x;
    }

    static void put(KineticLattice x, int state, int... sites) {
        for (int site : sites) {
            x.set(site, state);
        }
    }

    static void fill(KineticLattice x, int state) {
        for (int site = 0; site < 48; site++) {
            x.set(site, state);
        }
    }

    /** Occupies the sites whose column and row make an even sum, or an odd one: no two are neighbours. */
    static void fillLikeAChessboard(KineticLattice x, int odd) {
        for (int site = 0; site < 48; site++) {
            x.set(site, (site % 6 + site / 6) % 2 == odd ? OCCUPIED : EMPTY);
        }
    }

    /** Every rate is 1000 and every pair of neighbours gives a hop: no lattice has a greater total. */
    static KineticLattice fullOfHops(int odd) {
        KineticLattice x = withRates(1000, 1000, 1000);
        fillLikeAChessboard(x, odd);
        return x;
    }

    /** No call tells a parameter without setting it, so it is set back. */
    static int parameter(KineticLattice x, int which) {
        int value = x.rate(which, 0);
        x.rate(which, value);
        return value;
    }
}
