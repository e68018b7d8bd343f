import java.util.function.Supplier;

/** The boundary cases of promises 12 to 16, a method for each sentence of the document that names one. */
public final class EdgesOfLongestTest {
    private static final Checks C = new Checks("EdgesOfLongestTest");
    private static final Edges E = new Edges(C);
    private static final int MIN = Edges.MIN;
    private static final int MAX = Edges.MAX;
    private static final String THROUGH_ALL = "eeeswwwseeeswww";

    public static void main(String[] args) {
        promise12NoneBesideTheSteps();
        promise12AFieldOfOnePlace();
        promise12AFieldOfSixteen();
        promise12TheFirstSuch();
        promise13ThereIsNoSuchPlace();
        promise13AFieldOfOnePlace();
        promise13AFieldOfSixteen();
        promise13WhatCanNotBeComeTo();
        promise14ColoursAlikeFewerAndMore();
        promise14OnlyWhatCanBeComeTo();
        promise15NoneBesideTheSteps();
        promise15NothingToBring();
        promise15AllIsBrought();
        promise15FewerStepsThenTheFirst();
        promise16KIsZeroToTwenty();
        promise16WhatIsZeroOrOne();
        promise16BothAreOutside();
        promise16NoStepsMore();
        promise16MoreStepsThanThereAre();
        promise16NothingIsLeft();
        promise16JustEnoughSteps();
        promise16AStepThatCanNotBe();
        promise16ThereIsAFault();
        C.end();
    }

    private static void promise12NoneBesideTheSteps() {
        int[][] sides = {{1, 2}, {3, 3}, {5, 3}, {4, 4}};
        for (int[] side : sides) {
            int steps = side[0] * side[1] - 1;
            Supplier<CornWay> made = () -> told(side[0], side[1], 0, "");
            E.answers("12: longest(-1) of " + side[0] + " by " + side[1], made, x -> x.longest(-1), steps + 1);
            C.holds("12: the first step is one", "nesw".indexOf(made.get().longest(0)) >= 0);
            C.holds("12: the last step is one", "nesw".indexOf(made.get().longest(steps - 1)) >= 0);
            for (int i : new int[] {steps, steps + 1, 16, 17, 40, 65536, MAX - 1, MAX, -2, -3, MIN + 1, MIN}) {
                E.refuses("12: longest(" + i + ")", made, x -> x.longest(i), CornWay.NONE);
            }
        }
    }

    private static void promise12AFieldOfOnePlace() {
        for (CornWay x : new CornWay[] {told(1, 1, 0, ""), Checks.sown(4, 4, "#".repeat(15) + "0")}) {
            C.due("12: the beginning is one", x.longest(-1), 1);
            C.due("12: no step", x.longest(0), CornWay.NONE);
        }
    }

    private static void promise12AFieldOfSixteen() {
        C.due("12: from the first", told(4, 4, 0, "").longest(-1), 16);
        C.due("12: from the last", told(4, 4, 15, "").longest(-1), 16);
        CornWay x = Checks.sown(4, 4, "1".repeat(15) + "#");
        C.due("12: 7 of its colour, 8 of the other", x.longest(-1), 14);
    }

    private static void promise12TheFirstSuch() {
        C.holds("12: n ahead of all", steps(told(3, 3, 4, "")).equals("nesswwnn"));
        C.holds("12: e ahead of s", steps(told(2, 2, 0, "")).equals("esw"));
        C.holds("12: s ahead of w", steps(told(2, 2, 1, "")).equals("swn"));
        C.holds("12: n ahead of e", steps(told(2, 2, 2, "")).equals("nes"));
        C.holds("12: n ahead of w", steps(told(2, 2, 3, "")).equals("nws"));
        C.holds("12: longer is ahead of n", steps(told(4, 1, 1, "")).equals("ss"));
        C.holds("12: longer is ahead of e", steps(told(1, 5, 3, "")).equals("www"));
    }

    private static void promise13ThereIsNoSuchPlace() {
        E.takes("13: of one place", () -> told(1, 1, 0, ""), CornWay::all, -1, 0, CornWay.UNKNOWN);
        E.takes("13: of nine", CornWay::new, CornWay::all, -1, 8, CornWay.UNKNOWN);
        E.takes("13: of 15", () -> told(3, 5, 0, ""), CornWay::all, -1, 14, CornWay.UNKNOWN);
        E.takes("13: of 16", () -> told(4, 4, 0, ""), CornWay::all, -1, 15, CornWay.UNKNOWN);
    }

    private static void promise13AFieldOfOnePlace() {
        C.due("13: the way of no steps", told(1, 1, 0, "").all(-1), 1);
        C.due("13: it ends there", told(1, 1, 0, "").all(0), 1);
        CornWay x = Checks.sown(4, 4, "#".repeat(15) + "0");
        C.due("13: the last alone", x.all(-1), 1);
        C.due("13: it ends there too", x.all(15), 1);
        C.due("13: at stones none does", x.all(0) + x.all(14), 0);
    }

    private static void promise13AFieldOfSixteen() {
        CornWay x = told(4, 4, 0, "");
        int sum = 0;
        for (int place = 0; place < 16; place++) {
            sum += x.all(place);
        }
        C.due("13: all of 16", x.all(-1), 52);
        C.due("13: those that end at a place, summed up", sum, 52);
        C.due("13: none ends where it begins", x.all(0), 0);
        C.due("13: nor at its colour, the last", x.all(15), 0);
        C.due("13: as many at 3 as at 12", x.all(3), x.all(12));
    }

    private static void promise13WhatCanNotBeComeTo() {
        CornWay x = Checks.sown(4, 4, "1#" + "#".repeat(13) + "1");
        C.due("13: the last is not come to", x.all(-1), 0);
        C.due("13: none ends there", x.all(15), 0);
        C.due("13: the beginning is not all", x.all(0), 0);
    }

    private static void promise14ColoursAlikeFewerAndMore() {
        C.due("14: 1 and 0", told(1, 1, 0, "").bound(), 1);
        C.due("14: 1 and 1", told(1, 2, 0, "").bound(), 2);
        C.due("14: 1 and 1, the other", told(1, 2, 1, "").bound(), 2);
        C.due("14: 2 and 1", told(1, 3, 0, "").bound(), 3);
        C.due("14: 1 and 2", told(1, 3, 1, "").bound(), 2);
        C.due("14: 2 and 2", told(2, 2, 0, "").bound(), 4);
        C.due("14: 8 and 8", told(4, 4, 15, "").bound(), 16);
        C.due("14: 8 and 7", told(3, 5, 0, "").bound(), 15);
        C.due("14: 7 and 8", told(3, 5, 1, "").bound(), 14);
        C.due("14: 8 and 7, columns fewer", told(5, 3, 14, "").bound(), 15);
        C.due("14: 7 and 8, columns fewer", told(5, 3, 13, "").bound(), 14);
        C.due("14: one column, 1 and 1", told(2, 1, 0, "").bound(), 2);
        C.due("14: one column, 3 and 2", told(5, 1, 4, "").bound(), 5);
        C.due("14: one column, 2 and 3", told(5, 1, 3, "").bound(), 4);
        CornWay x = Checks.sown(4, 4, "1#1#" + "1111" + "1#1#" + "1111");
        C.due("14: 8 and 4", x.bound(), 9);
        x.begin(4);
        C.due("14: 4 and 8", x.bound(), 8);
    }

    private static void promise14OnlyWhatCanBeComeTo() {
        CornWay x = Checks.sown(4, 4, "1#11#" + "1".repeat(11));
        C.due("14: the beginning among stones, 1 and 0", x.bound(), 1);
        x.begin(15);
        C.due("14: the others, 7 of its colour, 6 of the other", x.bound(), 13);
        x.begin(14);
        C.due("14: and the other way round", x.bound(), 12);
        C.due("14: by a way that is told nothing changes", told(1, 5, 2, "ee").bound(), 5);
    }

    private static void promise15NoneBesideTheSteps() {
        int[][] sides = {{1, 2}, {3, 3}, {5, 3}, {4, 4}};
        for (int[] side : sides) {
            int steps = side[0] * side[1] - 1;
            Supplier<CornWay> made = () -> told(side[0], side[1], 0, "");
            E.answers("15: best(-1) of " + side[0] + " by " + side[1], made, x -> x.best(-1), steps + 1);
            C.holds("15: the first step is one", "nesw".indexOf(made.get().best(0)) >= 0);
            C.holds("15: the last step is one", "nesw".indexOf(made.get().best(steps - 1)) >= 0);
            for (int i : new int[] {steps, steps + 1, 16, 17, 40, 65536, MAX - 1, MAX, -2, -3, MIN + 1, MIN}) {
                E.refuses("15: best(" + i + ")", made, x -> x.best(i), CornWay.NONE);
            }
        }
    }

    private static void promise15NothingToBring() {
        CornWay x = Checks.sown(4, 4, "0".repeat(16));
        C.due("15: no ears at all", x.best(-1), 0);
        C.due("15: it stays", x.best(0), CornWay.NONE);
        CornWay y = Checks.sown(1, 1, "9");
        C.due("15: one place", y.best(-1), 9);
        C.due("15: no step", y.best(0), CornWay.NONE);
        CornWay z = Checks.sown(4, 4, "9".repeat(16));
        z.spill(9);
        C.due("15: all have spilt behind one step", z.best(-1), 9);
        C.due("15: it stays there", z.best(0), CornWay.NONE);
        z.spill(8);
        C.due("15: one is left behind one step", z.best(-1), 10);
        C.due("15: it goes e", z.best(0), 'e');
        C.due("15: and no farther", z.best(1), CornWay.NONE);
    }

    private static void promise15AllIsBrought() {
        CornWay x = Checks.sown(4, 4, "9".repeat(16));
        C.due("15: 16 of 9", x.best(-1), 144);
        C.due("15: the 15th step", "nesw".indexOf(x.best(14)) >= 0 ? 1 : 0, 1);
        C.due("15: no 16th", x.best(15), CornWay.NONE);
    }

    private static void promise15FewerStepsThenTheFirst() {
        CornWay x = Checks.sown(1, 3, "555");
        x.begin(1);
        C.due("15: of two alike e", x.best(0), 'e');
        CornWay y = Checks.sown(1, 3, "605");
        y.begin(1);
        C.due("15: more is ahead of e", y.best(0), 'w');
        CornWay z = Checks.sown(1, 5, "50005");
        z.begin(3);
        C.due("15: fewer steps to the same", z.best(0), 'e');
        C.due("15: one step", z.best(1), CornWay.NONE);
        z.begin(1);
        C.due("15: fewer steps are ahead of e", z.best(0), 'w');
        C.due("15: one step there too", z.best(1), CornWay.NONE);
        z.begin(2);
        C.due("15: as many both ways", z.best(0), 'e');
        CornWay u = Checks.sown(3, 1, "5" + "0" + "5");
        u.begin(1);
        C.due("15: n ahead of s", u.best(0), 'n');
    }

    private static void promise16KIsZeroToTwenty() {
        for (int what = 0; what <= 1; what++) {
            int w = what;
            E.takes("16: k, no steps", CornWay::new, (x, k) -> x.storm(k, w), 0, 20, CornWay.OUTSIDE);
            E.takes("16: k, all steps", () -> told(4, 4, 0, THROUGH_ALL), (x, k) -> x.storm(k, w), 0, 20,
                CornWay.OUTSIDE);
        }
    }

    private static void promise16WhatIsZeroOrOne() {
        for (int steps : new int[] {0, 1, 20}) {
            E.takes("16: what, k = " + steps, () -> told(4, 4, 5, "n"), (x, what) -> x.storm(steps, what), 0, 1,
                CornWay.OUTSIDE);
        }
    }

    private static void promise16BothAreOutside() {
        int[] numbers = {MIN, -1, 21, MAX};
        for (String text : new String[] {"", "n", "x", "e".repeat(40)}) {
            for (int k : numbers) {
                for (int what : numbers) {
                    E.refuses("16: storm(" + k + ", " + what + ") of " + text, () -> told(3, 3, 0, text),
                        x -> x.storm(k, what), CornWay.OUTSIDE);
                }
                E.refuses("16: storm(" + k + ", 0) of " + text, () -> told(3, 3, 0, text), x -> x.storm(k, 0),
                    CornWay.OUTSIDE);
                E.refuses("16: storm(0, " + k + ") of " + text, () -> told(3, 3, 0, text), x -> x.storm(0, k),
                    CornWay.OUTSIDE);
            }
        }
    }

    private static void promise16NoStepsMore() {
        CornWay x = Checks.sown(2, 2, "1234");
        C.due("16: what the beginning brings", x.storm(0, 0), 1);
        C.due("16: it stays", x.storm(0, 1), CornWay.NONE);
        Checks.write(x, "es");
        C.due("16: what the way brings", x.storm(0, 0), 7);
        C.due("16: it stays there", x.storm(0, 1), CornWay.NONE);
        x.spill(9);
        C.due("16: what the way brings, spilt", x.storm(0, 0), 1);
    }

    private static void promise16MoreStepsThanThereAre() {
        Supplier<CornWay> made = () -> Checks.sown(4, 4, "9".repeat(16));
        E.answers("16: 15 steps", made, x -> x.storm(15, 0), 144);
        E.answers("16: 14 steps", made, x -> x.storm(14, 0), 135);
        E.answers("16: 16 steps", made, x -> x.storm(16, 0), 144);
        E.answers("16: 20 steps", made, x -> x.storm(20, 0), 144);
        E.answers("16: 20 steps, the first", made, x -> x.storm(20, 1), 'e');
        E.answers("16: one place", () -> Checks.sown(1, 1, "9"), x -> x.storm(20, 0), 9);
        E.answers("16: one place, it stays", () -> Checks.sown(1, 1, "9"), x -> x.storm(20, 1), CornWay.NONE);
    }

    private static void promise16NothingIsLeft() {
        for (int k : new int[] {0, 1, 20}) {
            C.due("16: all is cut, " + k + " more", told(4, 4, 0, THROUGH_ALL).storm(k, 0), 16);
            C.due("16: it stays, " + k + " more", told(4, 4, 0, THROUGH_ALL).storm(k, 1), CornWay.NONE);
        }
        String butOne = THROUGH_ALL.substring(0, 14);
        C.due("16: one is left, none more", told(4, 4, 0, butOne).storm(0, 0), 15);
        C.due("16: one is left, one more", told(4, 4, 0, butOne).storm(1, 0), 16);
        C.due("16: one is left, w", told(4, 4, 0, butOne).storm(1, 1), 'w');
    }

    private static void promise16JustEnoughSteps() {
        CornWay x = Checks.sown(1, 5, "00009");
        for (int k = 0; k <= 20; k++) {
            C.due("16: nine at the end, " + k, x.storm(k, 0), k < 4 ? 0 : 9);
            C.due("16: the first step, " + k, x.storm(k, 1), k < 4 ? CornWay.NONE : 'e');
        }
        x.spill(2);
        C.due("16: one of nine behind four steps", x.storm(4, 0), 1);
        x.spill(3);
        C.due("16: all has spilt", x.storm(20, 0), 0);
        C.due("16: it stays", x.storm(20, 1), CornWay.NONE);
        Checks.write(x, "eee");
        x.spill(2);
        C.due("16: it spills by all steps, those told too", x.storm(1, 0), 1);
    }

    private static void promise16AStepThatCanNotBe() {
        for (String text : new String[] {"n", "ew", "e".repeat(40)}) {
            for (int k : new int[] {0, 20}) {
                Supplier<CornWay> made = () -> told(3, 3, 0, text);
                E.refuses("16: storm(" + k + ", 0) of " + text, made, x -> x.storm(k, 0), CornWay.STATE);
                E.refuses("16: storm(" + k + ", 1) of " + text, made, x -> x.storm(k, 1), CornWay.STATE);
            }
        }
    }

    private static void promise16ThereIsAFault() {
        for (String text : new String[] {"x", "nx", "e".repeat(39) + "x", "1".repeat(40)}) {
            for (int k : new int[] {0, 20}) {
                Supplier<CornWay> made = () -> told(3, 3, 0, text);
                E.refuses("16: storm(" + k + ", 0) of " + text, made, x -> x.storm(k, 0), CornWay.NO);
                E.refuses("16: storm(" + k + ", 1) of " + text, made, x -> x.storm(k, 1), CornWay.NO);
            }
        }
    }

    private static String steps(CornWay x) {
        return Checks.steps(x::longest);
    }

    private static CornWay told(int rows, int columns, int beginning, String way) {
        CornWay x = new CornWay();
        x.field(rows, columns);
        x.begin(beginning);
        Checks.write(x, way);
        return x;
    }
}
