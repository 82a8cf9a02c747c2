/** Collects wrong answers, so that one run of a test tells all of them. */
final class Checks {
    // For each sentence apart: one that is broken all over must not hide another.
    private static final int MOST_TOLD = 10;
    private String sentence = "";
    private int told = 0;
    private int wrong = 0;
    private int made = 0;

    /** The words of the document that the next checks belong to. */
    void sentence(String words) {
        sentence = "[" + words + "] ";
        told = 0;
    }

    void due(String call, long got, long want) {
        made++;
        if (got != want) {
            wrong++;
            told++;
            if (told <= MOST_TOLD) {
                System.out.println(sentence + call + " answered " + got + ", due is " + want);
            }
        }
    }

    void due(String what, boolean holds) {
        due(what, holds ? 1 : 0, 1);
    }

    /** Exactly these sites are occupied and none is blocked. */
    void dueOccupied(String when, KineticLattice x, int... sites) {
        int[] want = new int[48];
        for (int site : sites) {
            want[site] = 1;
        }
        for (int site = 0; site < 48; site++) {
            due(when + ": state(" + site + ")", x.state(site), want[site]);
        }
    }

    void dueHappened(String when, KineticLattice x, int adsorbed, int desorbed, int hopped) {
        due(when + ": happened(ADSORB)", x.happened(KineticLattice.ADSORB), adsorbed);
        due(when + ": happened(DESORB)", x.happened(KineticLattice.DESORB), desorbed);
        due(when + ": happened(HOP)", x.happened(KineticLattice.HOP), hopped);
    }

    /** No question tells these two apart. */
    void dueAlike(String when, KineticLattice x, KineticLattice y) {
        for (int site = 0; site < 48; site++) {
            due(when + ": state(" + site + ")", x.state(site), y.state(site));
            due(when + ": siteRate(" + site + ")", x.siteRate(site), y.siteRate(site));
        }
        due(when + ": total()", x.total(), y.total());
        due(when + ": occupied()", x.occupied(), y.occupied());
        due(when + ": pairs()", x.pairs(), y.pairs());
        for (int kind = 0; kind < 3; kind++) {
            due(when + ": happened(" + kind + ")", x.happened(kind), y.happened(kind));
        }
        for (int which = 0; which <= 6; which++) {
            due(when + ": parameter " + which, Lattices.parameter(x, which), Lattices.parameter(y, which));
        }
    }

    void end() {
        System.out.println(made + " checks, " + wrong + " wrong");
        if (wrong != 0) {
            System.exit(1);
        }
    }
}
