import java.util.function.Supplier;

/** The boundary cases of promises 10 and 11, a method for each sentence of the document that names one. */
public final class EdgesOfWaysTest {
    private static final Checks C = new Checks("EdgesOfWaysTest");
    private static final Edges E = new Edges(C);
    /** From the first of 4 by 4 through all 16, row by row. */
    private static final String THROUGH_ALL = "eeeswwwseeeswww";

    public static void main(String[] args) {
        promise10WhatIsZeroOrOne();
        promise10NoSteps();
        promise10FortySteps();
        promise10BeyondTheField();
        promise10AFieldOfOnePlace();
        promise10AStone();
        promise10WhatIsCut();
        promise10ThereIsAFault();
        promise11WhatIsZeroToSix();
        promise11TheBeginningIsCutAtOnce();
        promise11AFieldOfOnePlace();
        promise11AWayThroughSixteen();
        promise11LockedAtTheEnds();
        promise11BlindOrNot();
        promise11BroughtIsZeroAtLeast();
        promise11AStepThatCanNotBe();
        promise11ThereIsAFault();
        outsideIsAheadOfStateAndNo();
        C.end();
    }

    private static void promise10WhatIsZeroOrOne() {
        E.takes("10: what, of no steps", CornWay::new, CornWay::judge, 0, 1, CornWay.OUTSIDE);
        E.takes("10: what, of a way that can be", () -> told(3, 3, 4, "ne"), CornWay::judge, 0, 1, CornWay.OUTSIDE);
        E.takes("10: what, of one that can not", () -> told(3, 3, 4, "nn"), CornWay::judge, 0, 1, CornWay.OUTSIDE);
    }

    private static void promise10NoSteps() {
        for (int side = 1; side <= 4; side++) {
            judged(told(side, side, side * side - 1, ""), "no steps", CornWay.NONE, CornWay.NONE);
        }
    }

    private static void promise10FortySteps() {
        judged(told(1, 1, 0, "n".repeat(40)), "40 to the north", 0, 1);
        judged(told(4, 4, 0, "e".repeat(40)), "40 to the east", 3, 1);
        judged(told(4, 4, 0, THROUGH_ALL), "15, through all", CornWay.NONE, CornWay.NONE);
        judged(told(4, 4, 0, THROUGH_ALL + "n".repeat(25)), "40, the 16th to what is cut", 15, 3);
        judged(told(4, 4, 0, THROUGH_ALL + "w".repeat(25)), "40, the 16th beyond", 15, 1);
    }

    private static void promise10BeyondTheField() {
        for (int place = 0; place < 12; place++) {
            int row = place / 4;
            int column = place % 4;
            judged(told(3, 4, place, "n"), "n of " + place, row == 0 ? 0 : -6, row == 0 ? 1 : -6);
            judged(told(3, 4, place, "e"), "e of " + place, column == 3 ? 0 : -6, column == 3 ? 1 : -6);
            judged(told(3, 4, place, "s"), "s of " + place, row == 2 ? 0 : -6, row == 2 ? 1 : -6);
            judged(told(3, 4, place, "w"), "w of " + place, column == 0 ? 0 : -6, column == 0 ? 1 : -6);
        }
    }

    private static void promise10AFieldOfOnePlace() {
        for (String step : new String[] {"n", "e", "s", "w"}) {
            judged(told(1, 1, 0, step), step + " of one place", 0, 1);
        }
    }

    private static void promise10AStone() {
        for (String step : new String[] {"n", "e", "s", "w"}) {
            CornWay x = Checks.sown(3, 3, "####1####");
            Checks.write(x, step);
            judged(x, step + " to a stone", 0, 2);
        }
        CornWay y = Checks.sown(4, 4, "1".repeat(15) + "#");
        Checks.write(y, "eeesss");
        judged(y, "the last place is a stone", 5, 2);
        CornWay z = Checks.sown(4, 4, "#" + "1".repeat(15));
        Checks.write(z, "w");
        judged(z, "the first place is a stone", 0, 2);
    }

    private static void promise10WhatIsCut() {
        judged(told(1, 2, 0, "ew"), "back to the beginning", 1, 3);
        judged(told(2, 2, 0, "eswn"), "round to the beginning", 3, 3);
        judged(told(3, 3, 8, "ns"), "back to the last place", 1, 3);
        judged(told(3, 3, 4, "neswnnnn"), "to a step of its own", 3, 3);
    }

    private static void promise10ThereIsAFault() {
        String[] texts = {"x", "nx", "xn", "N", "e#", "e".repeat(39) + "x", "1".repeat(40)};
        for (String text : texts) {
            Supplier<CornWay> made = () -> told(3, 3, 0, text);
            E.refuses("10: judge(0) of " + text, made, x -> x.judge(0), CornWay.NO);
            E.refuses("10: judge(1) of " + text, made, x -> x.judge(1), CornWay.NO);
        }
    }

    private static void promise11WhatIsZeroToSix() {
        E.takes("11: what, of no steps", CornWay::new, CornWay::way, 0, 6, CornWay.OUTSIDE);
        E.takes("11: what, of all", () -> told(4, 4, 0, THROUGH_ALL), CornWay::way, 0, 6, CornWay.OUTSIDE);
        E.takes("11: what, of one place", () -> told(1, 1, 0, ""), CornWay::way, 0, 6, CornWay.OUTSIDE);
    }

    private static void promise11TheBeginningIsCutAtOnce() {
        for (int place = 0; place < 16; place++) {
            CornWay x = told(4, 4, place, "");
            C.due("11: the end at " + place, x.way(0), place);
            C.due("11: one place", x.way(1), 1);
            C.due("11: one ear", x.way(2), 1);
            C.due("11: nothing is locked", x.way(3), 0);
            C.due("11: not blind", x.way(4), 0);
            C.due("11: brought", x.way(5), 1);
            C.due("11: its bit", x.way(6), 1 << place);
        }
    }

    private static void promise11AFieldOfOnePlace() {
        CornWay x = Checks.sown(1, 1, "9");
        x.spill(9);
        int[] due = {0, 1, 9, 0, 1, 9, 1};
        for (int what = 0; what < due.length; what++) {
            C.due("11: way(" + what + ") of one place", x.way(what), due[what]);
        }
        CornWay y = Checks.sown(4, 4, "#".repeat(15) + "9");
        int[] last = {15, 1, 9, 0, 1, 9, 32768};
        for (int what = 0; what < last.length; what++) {
            C.due("11: way(" + what + ") of the last place among stones", y.way(what), last[what]);
        }
    }

    private static void promise11AWayThroughSixteen() {
        CornWay x = Checks.sown(4, 4, "9".repeat(16));
        Checks.write(x, THROUGH_ALL);
        int[] due = {12, 16, 144, 0, 1, 144, 65535};
        for (int what = 0; what < due.length; what++) {
            C.due("11: way(" + what + ") through 16", x.way(what), due[what]);
        }
        x.spill(9);
        C.due("11: all but the beginning have spilt", x.way(5), 9);
    }

    private static void promise11LockedAtTheEnds() {
        CornWay x = Checks.sown(4, 4, "1#" + "#".repeat(12) + "#1");
        C.due("11: the last place alone", x.way(3), 32768);
        x.begin(15);
        C.due("11: the first place alone", x.way(3), 1);
        CornWay y = Checks.sown(4, 4, "1#" + "1".repeat(14));
        Checks.write(y, "s");
        C.due("11: nothing", y.way(3), 0);
        CornWay z = Checks.sown(4, 4, "1#11#" + "1".repeat(11));
        C.due("11: all but the beginning and stones", z.way(3), 65535 - 1 - 2 - 16);
        C.due("11: it is blind then", z.way(4), 1);
    }

    private static void promise11BlindOrNot() {
        C.due("11: one way on, n", told(3, 1, 2, "").way(4), 0);
        C.due("11: one way on, e", told(1, 3, 0, "").way(4), 0);
        C.due("11: one way on, s", told(3, 1, 0, "").way(4), 0);
        C.due("11: one way on, w", told(1, 3, 2, "").way(4), 0);
        C.due("11: none, at the edge", told(1, 3, 0, "ee").way(4), 1);
        C.due("11: none, round about is cut", told(3, 3, 0, "eesswwne").way(4), 1);
        C.due("11: the last but one", told(3, 3, 0, "eesswwn").way(4), 0);
    }

    private static void promise11BroughtIsZeroAtLeast() {
        int[] ears = {9, 8, 7, 1, 0};
        for (int spill = 0; spill <= 9; spill++) {
            CornWay x = Checks.sown(1, 5, "98710");
            x.spill(spill);
            int sum = 0;
            String way = "";
            for (int t = 0; t < 5; t++) {
                Checks.write(x, way);
                sum += ears[t] > spill * t ? ears[t] - spill * t : 0;
                C.due("11: brought, spill " + spill + ", " + t + " steps", x.way(5), sum);
                way += "e";
            }
        }
        CornWay y = Checks.sown(1, 3, "099");
        y.spill(9);
        Checks.write(y, "e");
        C.due("11: 9 less 9", y.way(5), 0);
        y.spill(8);
        C.due("11: 9 less 8", y.way(5), 1);
        Checks.write(y, "ee");
        C.due("11: and 9 less 16", y.way(5), 1);
    }

    private static void promise11AStepThatCanNotBe() {
        String[] texts = {"n", "w", "ew", "eee", "e".repeat(40)};
        for (String text : texts) {
            for (int what = 0; what <= 6; what++) {
                int w = what;
                E.refuses("11: way(" + w + ") of " + text, () -> told(3, 3, 0, text), x -> x.way(w), CornWay.STATE);
            }
        }
        E.refuses("11: one step behind 15", () -> told(4, 4, 0, THROUGH_ALL + "n"), x -> x.way(0), CornWay.STATE);
        E.refuses("11: one place", () -> told(1, 1, 0, "e"), x -> x.way(1), CornWay.STATE);
    }

    private static void promise11ThereIsAFault() {
        String[] texts = {"x", "ex", "nx", "e".repeat(39) + "#", "5".repeat(40)};
        for (String text : texts) {
            for (int what = 0; what <= 6; what++) {
                int w = what;
                E.refuses("11: way(" + w + ") of " + text, () -> told(3, 3, 0, text), x -> x.way(w), CornWay.NO);
            }
        }
    }

    private static void outsideIsAheadOfStateAndNo() {
        String[] texts = {"n", "x", "e".repeat(40), "#".repeat(40)};
        for (String text : texts) {
            Supplier<CornWay> made = () -> told(3, 3, 0, text);
            for (int what : new int[] {Edges.MIN, -1, 7, Edges.MAX}) {
                E.refuses("judge(" + what + ") of " + text, made, x -> x.judge(what), CornWay.OUTSIDE);
                E.refuses("way(" + what + ") of " + text, made, x -> x.way(what), CornWay.OUTSIDE);
            }
            E.refuses("judge(2) of " + text, made, x -> x.judge(2), CornWay.OUTSIDE);
        }
    }

    private static void judged(CornWay x, String what, int step, int why) {
        C.due("10: judge(0), " + what, x.judge(0), step);
        C.due("10: judge(1), " + what, x.judge(1), why);
    }

    private static CornWay told(int rows, int columns, int beginning, String way) {
        CornWay x = new CornWay();
        x.field(rows, columns);
        x.begin(beginning);
        Checks.write(x, way);
        return x;
    }
}
