/** Promises 12 to 16: longest, best. */
public final class LongestTest {
    private static final Checks C = new Checks("LongestTest");

    public static void main(String[] args) {
        promise12Longest();
        promise12LongestIsFirst();
        promise13All();
        promise14Bound();
        promise15Best();
        promise15BestOfSeveral();
        promise16Storm();
        promise16StormRefused();
        whatIsKnownGoesWithTheField();
        C.end();
    }

    private static void promise12Longest() {
        CornWay x = new CornWay();
        C.due("12: longest(-1)", x.longest(-1), 9);
        C.due("12: longest(8)", x.longest(8), CornWay.NONE);
        C.due("12: longest(-2)", x.longest(-2), CornWay.NONE);
        C.due("12: longest(MIN)", x.longest(Integer.MIN_VALUE), CornWay.NONE);
        C.due("12: longest(MAX)", x.longest(Integer.MAX_VALUE), CornWay.NONE);
        x.begin(1);
        C.due("12: by colours one is left", x.longest(-1), 8);
        x.field(1, 1);
        C.due("12: a field of one", x.longest(-1), 1);
        C.due("12: it has no steps", x.longest(0), CornWay.NONE);
        CornWay y = Checks.sown(1, 5, "11#11");
        C.due("12: up to the stone", y.longest(-1), 2);
        y.begin(4);
        C.due("12: from the other side", y.longest(-1), 2);
        C.due("12: to the west", y.longest(0), 'w');
    }

    private static void promise12LongestIsFirst() {
        CornWay x = new CornWay();
        C.holds("12: n is ahead of e, e of s, s of w", Checks.steps(x::longest).equals("eesswnws"));
        x.begin(4);
        C.holds("12: n first from the middle", Checks.steps(x::longest).equals("nesswwnn"));
        x.field(1, 3);
        x.begin(1);
        C.holds("12: e ahead of w", Checks.steps(x::longest).equals("e"));
        x.field(3, 1);
        x.begin(1);
        C.holds("12: n ahead of s", Checks.steps(x::longest).equals("n"));
    }

    private static void promise13All() {
        CornWay x = new CornWay();
        int[] ends = {0, 0, 2, 0, 2, 0, 2, 0, 2};
        for (int place = 0; place < ends.length; place++) {
            C.due("13: all(" + place + ")", x.all(place), ends[place]);
        }
        C.due("13: all(-1)", x.all(-1), 8);
        C.due("13: all(9)", x.all(9), CornWay.UNKNOWN);
        C.due("13: all(-2)", x.all(-2), CornWay.UNKNOWN);
        C.due("13: all(MIN)", x.all(Integer.MIN_VALUE), CornWay.UNKNOWN);
        x.field(1, 1);
        C.due("13: the way of no steps cuts a field of one", x.all(-1), 1);
        C.due("13: it ends where it begins", x.all(0), 1);
        CornWay y = Checks.sown(1, 5, "111#1");
        C.due("13: what can not be come to counts", y.all(-1), 0);
        C.due("13: at a stone none ends", y.all(3), 0);
        CornWay z = Checks.sown(1, 5, "111##");
        C.due("13: stones need not be cut", z.all(-1), 1);
        C.due("13: all(2)", z.all(2), 1);
    }

    private static void promise14Bound() {
        CornWay x = new CornWay();
        C.due("14: 5 of its colour, 4 others", x.bound(), 9);
        x.begin(1);
        C.due("14: 4 of its colour, 5 others", x.bound(), 8);
        x.field(4, 4);
        C.due("14: 8 and 8", x.bound(), 16);
        x.field(1, 1);
        C.due("14: 1 and 0", x.bound(), 1);
        CornWay y = Checks.sown(1, 5, "11#11");
        C.due("14: only what can be come to", y.bound(), 2);
        CornWay z = Checks.sown(3, 3, "#1#111#1#");
        C.due("14: a cross from an arm, 4 and 1", z.bound(), 3);
        z.begin(4);
        C.due("14: a cross from its middle, 1 and 4", z.bound(), 2);
        C.due("14: as long as that it is", z.longest(-1), 2);
    }

    private static void promise15Best() {
        CornWay x = Checks.sown(2, 3, "35#094");
        C.due("15: best(-1)", x.best(-1), 21);
        C.holds("15: its steps", Checks.steps(x::best).equals("ese"));
        x.spill(2);
        C.due("15: best(-1), spill 2", x.best(-1), 11);
        C.holds("15: its steps, spill 2", Checks.steps(x::best).equals("es"));
        C.due("15: best(2)", x.best(2), CornWay.NONE);
        C.due("15: best(-2)", x.best(-2), CornWay.NONE);
        C.due("15: best(MAX)", x.best(Integer.MAX_VALUE), CornWay.NONE);
        CornWay y = Checks.sown(1, 2, "00");
        C.due("15: nothing to bring", y.best(-1), 0);
        C.due("15: it stays", y.best(0), CornWay.NONE);
    }

    private static void promise15BestOfSeveral() {
        CornWay x = Checks.sown(3, 3, "101010101");
        x.begin(4);
        C.due("15: all five", x.best(-1), 5);
        C.holds("15: round by all corners, n and e first", Checks.steps(x::best).equals("nesswwnn"));
        CornWay y = Checks.sown(2, 3, "101101");
        C.due("15: 4 ears", y.best(-1), 4);
        C.holds("15: four steps, though five would begin with e", Checks.steps(y::best).equals("seen"));
        CornWay z = Checks.sown(1, 5, "20302");
        z.begin(2);
        C.due("15: e or w", z.best(-1), 5);
        C.holds("15: e is first", Checks.steps(z::best).equals("ee"));
        CornWay q = Checks.sown(2, 3, "100050");
        C.due("15: one of two steps is best", q.best(-1), 6);
        C.holds("15: not of four, e ahead of s", Checks.steps(q::best).equals("es"));
        CornWay r = Checks.sown(2, 3, "190050");
        r.begin(3);
        r.spill(4);
        C.due("15: e n brings 1 and 1, n e 0 and 1", r.best(-1), 2);
        C.holds("15: its steps, spill 4", Checks.steps(r::best).equals("en"));
    }

    private static void promise16Storm() {
        CornWay x = Checks.sown(2, 3, "312094");
        int[] most = {3, 4, 13, 17, 19, 19};
        int[] first = {-6, 'e', 'e', 'e', 'e', 'e'};
        for (int k = 0; k < most.length; k++) {
            C.due("16: storm(" + k + ", 0)", x.storm(k, 0), most[k]);
            C.due("16: storm(" + k + ", 1)", x.storm(k, 1), first[k]);
        }
        C.due("16: storm(20, 0)", x.storm(20, 0), 19);
        Checks.write(x, "e");
        C.due("16: from e, all but the corner", x.storm(20, 0), 19);
        C.due("16: of those the one by e", x.storm(20, 1), 'e');
        x.spill(1);
        C.due("16: what waits spills on: 3, 0, 7", x.storm(1, 0), 10);
        C.due("16: storm(1, 1)", x.storm(1, 1), 's');
        C.due("16: 3, 0, 7, 1", x.storm(2, 0), 11);
        x.spill(9);
        C.due("16: nothing more to bring", x.storm(5, 0), 3);
        C.due("16: it stays", x.storm(5, 1), CornWay.NONE);
        x.spill(0);
        CornWay y = Checks.sown(2, 3, "101101");
        C.due("16: fewer steps first: s, though e is ahead of it", y.storm(20, 1), 's');
        C.due("16: three steps bring 3 both ways: e is first", y.storm(3, 1), 'e');
        Checks.write(x, "esw");
        C.due("16: blind", x.storm(20, 0), 13);
        C.due("16: it must stay", x.storm(20, 1), CornWay.NONE);
        C.due("16: the pad stays", x.told(0), 3);
    }

    private static void promise16StormRefused() {
        CornWay x = new CornWay();
        C.due("16: storm(-1, 0)", x.storm(-1, 0), CornWay.OUTSIDE);
        C.due("16: storm(21, 0)", x.storm(21, 0), CornWay.OUTSIDE);
        C.due("16: storm(1, 2)", x.storm(1, 2), CornWay.OUTSIDE);
        C.due("16: storm(1, -1)", x.storm(1, -1), CornWay.OUTSIDE);
        Checks.write(x, "n");
        C.due("16: a step can not be", x.storm(1, 0), CornWay.STATE);
        C.due("16: outside is ahead of it", x.storm(21, 0), CornWay.OUTSIDE);
        Checks.write(x, "x");
        C.due("16: a fault", x.storm(1, 1), CornWay.NO);
        C.due("16: outside is ahead of that", x.storm(1, 2), CornWay.OUTSIDE);
    }

    /** Every call that changes what the searches look at, between two looks of the same kind. */
    private static void whatIsKnownGoesWithTheField() {
        CornWay x = new CornWay();
        C.due("longest at first", x.longest(-1), 9);
        x.begin(1);
        C.due("longest behind begin", x.longest(-1), 8);
        x.image(0);
        x.field(2, 2);
        C.due("longest behind field", x.longest(-1), 4);
        C.due("best behind field", x.best(-1), 4);
        x.spill(9);
        C.due("best behind spill", x.best(-1), 1);
        x.restore(0);
        C.due("longest behind restore", x.longest(-1), 8);
        C.due("best behind restore", x.best(-1), 8);
        C.due("where behind restore", x.where(1), 9);
        C.due("two behind restore", x.two(), 9);
        Checks.write(x, "11#######");
        x.sow();
        C.due("longest behind sow", x.longest(-1), 2);
        C.due("where behind sow", x.where(1), 2);
        C.due("two behind sow", x.two(), 2);
        C.due("game behind sow", x.game(), 1001);
        C.due("all behind sow", x.all(1), 1);
        C.due("last behind sow", x.last(), 2);
    }
}
