public final class KineticLattice {
    public static final int BAD_SITE = -1;
    public static final int BAD_RATE = -2;
    public static final int BAD_PICK = -3;
    public static final int ADSORB = 0;
    public static final int DESORB = 1;
    public static final int HOP = 2;

    private static final int COLUMNS = 6;
    private static final int ROWS = 8;
    private static final int SITES = 48;
    private static final int DIRECTIONS = 4;
    private static final int RIGHT = 0;
    private static final int LEFT = 1;
    private static final int BELOW = 2;

    private static final int EMPTY = 0;
    private static final int OCCUPIED = 1;
    private static final int BLOCKED = 2;

    // The parameters stand in the order of rate's argument: D[0] to D[4], A, H.
    private static final int PARAMETERS = 7;
    private static final int A = 5;
    private static final int H = 6;
    private static final int GREATEST_RATE = 1000;

    private static final int KINDS = 3;
    private static final int GREATEST_RUN = 200;

    private final int[] states = new int[SITES];
    private final int[] parameters = new int[PARAMETERS];
    private final int[] counts = new int[KINDS];

    public KineticLattice() {
        for (int which = 0; which < PARAMETERS; which++) {
            parameters[which] = 1;
        }
    }

    public int rate(int which, int rate) {
        if (which < 0 || which >= PARAMETERS) {
            return BAD_SITE;
        }
        if (rate < 0 || rate > GREATEST_RATE) {
            return BAD_RATE;
        }
        int old = parameters[which];
        parameters[which] = rate;
        return old;
    }

    public int set(int site, int state) {
        if (!isSite(site)) {
            return BAD_SITE;
        }
        if (state < EMPTY || state > BLOCKED) {
            return BAD_RATE;
        }
        int old = states[site];
        states[site] = state;
        return old;
    }

    public int step(int r) {
        int bound = sumBelow(SITES);
        if (r < 0 || r >= bound) {
            return BAD_PICK;
        }
        return pick(r);
    }

    public int run(int n, int seed) {
        int steps = clamp(n, GREATEST_RUN);
        int x = seed;
        for (int made = 0; made < steps; made++) {
            int bound = sumBelow(SITES);
            if (bound <= 0) {
                return made;
            }
            x = x * 1103515245 + 12345;
            int r = ((x >>> 8) & 1048575) % bound;
            pick(r);
        }
        return steps;
    }

    public void clear() {
        for (int site = 0; site < SITES; site++) {
            states[site] = EMPTY;
        }
    }

    public int state(int site) {
        if (!isSite(site)) {
            return BAD_SITE;
        }
        return states[site];
    }

    public int total() {
        return sumBelow(SITES);
    }

    public int siteRate(int site) {
        if (!isSite(site)) {
            return BAD_SITE;
        }
        return sumAt(site);
    }

    public int occupied() {
        int found = 0;
        for (int site = 0; site < SITES; site++) {
            if (states[site] == OCCUPIED) {
                found++;
            }
        }
        return found;
    }

    // Looking right and below only meets each pair once: both rings are longer than two sites.
    public int pairs() {
        int found = 0;
        for (int site = 0; site < SITES; site++) {
            if (states[site] == OCCUPIED) {
                int right = neighbour(site, RIGHT);
                int below = neighbour(site, BELOW);
                if (states[right] == OCCUPIED) {
                    found++;
                }
                if (states[below] == OCCUPIED) {
                    found++;
                }
            }
        }
        return found;
    }

    public int happened(int kind) {
        if (kind < 0 || kind >= KINDS) {
            return 0;
        }
        return counts[kind];
    }

    public int before(int site) {
        int end = clamp(site, SITES);
        return sumBelow(end);
    }

    private static boolean isSite(int site) {
        return site >= 0 && site < SITES;
    }

    private static int clamp(int value, int greatest) {
        if (value < 0) {
            return 0;
        }
        return value > greatest ? greatest : value;
    }

    // Going back is adding the ring's length less one, so that no remainder is negative.
    private static int neighbour(int site, int k) {
        int column = site % COLUMNS;
        int row = site / COLUMNS;
        if (k == RIGHT) {
            column = (column + 1) % COLUMNS;
        } else if (k == LEFT) {
            column = (column + COLUMNS - 1) % COLUMNS;
        } else if (k == BELOW) {
            row = (row + 1) % ROWS;
        } else {
            row = (row + ROWS - 1) % ROWS;
        }
        return row * COLUMNS + column;
    }

    private int neighboursIn(int site, int state) {
        int found = 0;
        for (int k = 0; k < DIRECTIONS; k++) {
            int other = neighbour(site, k);
            if (states[other] == state) {
                found++;
            }
        }
        return found;
    }

    private int sumAt(int site) {
        if (states[site] == BLOCKED) {
            return 0;
        }
        if (states[site] == EMPTY) {
            return parameters[A];
        }
        int n = neighboursIn(site, OCCUPIED);
        int hops = neighboursIn(site, EMPTY);
        return parameters[n] + hops * parameters[H];
    }

    private int sumBelow(int end) {
        int sum = 0;
        for (int site = 0; site < end; site++) {
            sum += sumAt(site);
        }
        return sum;
    }

    // The callers have seen that 0 <= r < total, so one of the sites always takes r.
    private int pick(int r) {
        int rest = r;
        for (int site = 0; site < SITES; site++) {
            int here = sumAt(site);
            if (rest < here) {
                return happenAt(site, rest);
            }
            rest -= here;
        }
        return BAD_PICK;
    }

    private int happenAt(int site, int rest) {
        if (states[site] == EMPTY) {
            states[site] = OCCUPIED;
            return note(site, ADSORB, 0);
        }
        int n = neighboursIn(site, OCCUPIED);
        if (rest < parameters[n]) {
            states[site] = EMPTY;
            return note(site, DESORB, 0);
        }
        return hopFrom(site, rest - parameters[n]);
    }

    private int hopFrom(int site, int hopRest) {
        int rest = hopRest;
        for (int k = 0; k < DIRECTIONS; k++) {
            int other = neighbour(site, k);
            if (states[other] == EMPTY) {
                if (rest < parameters[H]) {
                    states[site] = EMPTY;
                    states[other] = OCCUPIED;
                    return note(site, HOP, k);
                }
                rest -= parameters[H];
            }
        }
        return BAD_PICK;
    }

    private int note(int site, int kind, int k) {
        counts[kind]++;
        return site + 64 * kind + 256 * k;
    }
}
