import java.util.ArrayList;
import java.util.List;

/** Long runs of mixed calls, each answer compared with that of a model that writes out all events. */
public final class ModelTest {
    private static final int LIVES = 400;
    private static final int CALLS = 512;
    private static final int[] ODD = {
        Integer.MIN_VALUE, -1000, -2, -1, 48, 49, 50, 1001, 300000, Integer.MAX_VALUE};

    private static final Checks checks = new Checks();
    private static long chance = 2463534242L;

    public static void main(String[] args) {
        for (int life = 0; life < LIVES; life++) {
            live(life);
        }
        checks.end();
    }

    // A fixed sequence: every run of this test makes the same calls.
    private static int below(int bound) {
        chance ^= chance << 13;
        chance ^= chance >>> 7;
        chance ^= chance << 17;
        return (int) Math.floorMod(chance >>> 11, (long) bound);
    }

    private static int mostly(int bound) {
        return below(12) == 0 ? ODD[below(ODD.length)] : below(bound);
    }

    private static int someRate() {
        int[] rates = {0, 1, 2, 1000, below(1001), below(20), mostly(1001)};
        return rates[below(rates.length)];
    }

    private static void live(int life) {
        KineticLattice x = new KineticLattice();
        Model model = new Model();
        int crowd = below(3);
        for (int call = 0; call < CALLS; call++) {
            boolean start = call < 60;
            int choice = start ? below(2) : below(24);
            String where = "life " + life + ", call " + call + ": ";
            if (choice < 2) {
                change(where, x, model, choice, crowd);
            } else if (choice < 12) {
                move(where, x, model, choice);
            } else {
                ask(where, x, model, choice);
            }
        }
    }

    private static void change(String where, KineticLattice x, Model model, int choice, int crowd) {
        if (choice == 0) {
            int which = mostly(7);
            int rate = someRate();
            checks.due(where + "rate(" + which + ", " + rate + ")", x.rate(which, rate), model.rate(which, rate));
        } else {
            int site = mostly(48);
            int state = crowd == 0 ? mostly(3) : below(4) == 0 ? mostly(3) : crowd - 1;
            checks.due(where + "set(" + site + ", " + state + ")", x.set(site, state), model.set(site, state));
        }
    }

    private static void move(String where, KineticLattice x, Model model, int choice) {
        if (choice < 9) {
            int total = model.total();
            int[] picks = {below(total + 1), below(total + 1), total, total - 1, 0, mostly(300000)};
            int r = picks[below(picks.length)];
            checks.due(where + "step(" + r + ")", x.step(r), model.step(r));
        } else if (choice < 11 || below(8) != 0) {
            int n = below(4) == 0 ? mostly(260) : below(6);
            int seed = below(Integer.MAX_VALUE) * (below(2) * 2 - 1);
            checks.due(where + "run(" + n + ", " + seed + ")", x.run(n, seed), model.run(n, seed));
        } else {
            x.clear();
            model.clear();
        }
    }

    private static void ask(String where, KineticLattice x, Model model, int choice) {
        int site = mostly(50);
        int kind = mostly(4);
        switch (choice) {
            case 12, 13 -> checks.due(where + "state(" + site + ")", x.state(site), model.state(site));
            case 14, 15 -> checks.due(where + "total()", x.total(), model.total());
            case 16, 17 -> checks.due(where + "siteRate(" + site + ")", x.siteRate(site), model.siteRate(site));
            case 18 -> checks.due(where + "occupied()", x.occupied(), model.occupied());
            case 19 -> checks.due(where + "pairs()", x.pairs(), model.pairs());
            case 20, 21 -> checks.due(where + "happened(" + kind + ")", x.happened(kind), model.happened(kind));
            default -> checks.due(where + "before(" + site + ")", x.before(site), model.before(site));
        }
    }

    private record Event(int site, int kind, int k, int rate) {
    }

    /** The document's words over a table of rows and columns, with the list of events made anew each time. */
    private static final class Model {
        private static final int[] RIGHTWARD = {1, -1, 0, 0};
        private static final int[] DOWNWARD = {0, 0, 1, -1};
        private final int[][] table = new int[8][6];
        private final int[] d = {1, 1, 1, 1, 1};
        private int a = 1;
        private int h = 1;
        private final int[] count = new int[3];

        private int at(int row, int column) {
            return table[Math.floorMod(row, 8)][Math.floorMod(column, 6)];
        }

        private int beside(int site, int k) {
            return at(site / 6 + DOWNWARD[k], site % 6 + RIGHTWARD[k]);
        }

        private List<Event> events() {
            List<Event> events = new ArrayList<>();
            for (int site = 0; site < 48; site++) {
                int state = table[site / 6][site % 6];
                if (state == 0) {
                    events.add(new Event(site, 0, 0, a));
                } else if (state == 1) {
                    addOccupied(events, site);
                }
            }
            return events;
        }

        private void addOccupied(List<Event> events, int site) {
            int n = 0;
            for (int k = 0; k < 4; k++) {
                n += beside(site, k) == 1 ? 1 : 0;
            }
            events.add(new Event(site, 1, 0, d[n]));
            for (int k = 0; k < 4; k++) {
                if (beside(site, k) == 0) {
                    events.add(new Event(site, 2, k, h));
                }
            }
        }

        int rate(int which, int rate) {
            if (which < 0 || which > 6) {
                return -1;
            }
            if (rate < 0 || rate > 1000) {
                return -2;
            }
            int old = which == 5 ? a : which == 6 ? h : d[which];
            if (which == 5) {
                a = rate;
            } else if (which == 6) {
                h = rate;
            } else {
                d[which] = rate;
            }
            return old;
        }

        int set(int site, int state) {
            if (site < 0 || site > 47) {
                return -1;
            }
            if (state < 0 || state > 2) {
                return -2;
            }
            int old = state(site);
            table[site / 6][site % 6] = state;
            return old;
        }

        int step(int r) {
            int sum = 0;
            for (Event event : events()) {
                if (r >= 0 && sum <= r && sum + event.rate() > r) {
                    happen(event);
                    return event.site() + 64 * event.kind() + 256 * event.k();
                }
                sum += event.rate();
            }
            return -3;
        }

        private void happen(Event event) {
            int row = event.site() / 6;
            int column = event.site() % 6;
            count[event.kind()]++;
            table[row][column] = event.kind() == 0 ? 1 : 0;
            if (event.kind() == 2) {
                int toRow = Math.floorMod(row + DOWNWARD[event.k()], 8);
                int toColumn = Math.floorMod(column + RIGHTWARD[event.k()], 6);
                table[toRow][toColumn] = 1;
            }
        }

        int run(int n, int seed) {
            int made = 0;
            int x = seed;
            while (made < Math.max(0, Math.min(200, n)) && total() > 0) {
                x = x * 1103515245 + 12345;
                step(((x >>> 8) & 1048575) % total());
                made++;
            }
            return made;
        }

        void clear() {
            for (int[] row : table) {
                java.util.Arrays.fill(row, 0);
            }
        }

        int state(int site) {
            return site < 0 || site > 47 ? -1 : table[site / 6][site % 6];
        }

        int total() {
            return events().stream().mapToInt(Event::rate).sum();
        }

        int siteRate(int site) {
            if (site < 0 || site > 47) {
                return -1;
            }
            return events().stream().filter(event -> event.site() == site).mapToInt(Event::rate).sum();
        }

        int occupied() {
            int found = 0;
            for (int site = 0; site < 48; site++) {
                found += state(site) == 1 ? 1 : 0;
            }
            return found;
        }

        // Every pair is seen from both of its ends.
        int pairs() {
            int ends = 0;
            for (int site = 0; site < 48; site++) {
                for (int k = 0; k < 4; k++) {
                    ends += state(site) == 1 && beside(site, k) == 1 ? 1 : 0;
                }
            }
            return ends / 2;
        }

        int happened(int kind) {
            return kind < 0 || kind > 2 ? 0 : count[kind];
        }

        int before(int site) {
            return events().stream().filter(event -> event.site() < site).mapToInt(Event::rate).sum();
        }
    }
}
