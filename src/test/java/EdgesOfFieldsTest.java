import java.util.function.Supplier;

/** The boundary cases of promises 1 to 9, a method for each sentence of the document that names one. */
public final class EdgesOfFieldsTest {
    private static final Checks C = new Checks("EdgesOfFieldsTest");
    private static final Edges E = new Edges(C);
    private static final int MIN = Edges.MIN;
    private static final int MAX = Edges.MAX;

    public static void main(String[] args) {
        promise1ThreeByThreeAnEarEach();
        promise1NothingIsSaidOrKeptAtFirst();
        promise2RowsAreOneToFive();
        promise2ColumnsAreOneToFive();
        promise2SixteenPlacesAtMost();
        promise2ProductsThatWrapAround();
        promise2AllHaveOneEarThen();
        promise2TheBeginningIsZeroThen();
        promise3CodesAre33To126();
        promise3ThePadHoldsForty();
        promise3OutsideIsAheadOfFull();
        promise4WipeOfNoneAndOfForty();
        promise5HowIsZeroOrOne();
        promise5AnEmptyPad();
        promise5AFullPad();
        promise5SignsBesideThoseThatCanStand();
        promise5MoreMustCome();
        promise5OneSignTooMany();
        promise5TheFirstOfSeveralFaults();
        promise6AFieldOfOnePlace();
        promise6AFieldOfSixteen();
        promise6AllAreStones();
        promise6ThereIsAFault();
        promise6TheFirstPlaceThatIsNoStone();
        promise7EarsAreZeroToNine();
        promise7ThereIsNoSuchPlace();
        promise8ThereIsNoSuchPlace();
        promise8AStone();
        promise9SpillIsZeroToNine();
        usedFor512Calls();
        C.end();
    }

    private static void promise1ThreeByThreeAnEarEach() {
        CornWay x = new CornWay();
        C.due("1: rows", x.told(1), 3);
        C.due("1: columns", x.told(2), 3);
        C.due("1: places", x.told(3), 9);
        C.due("1: ears of the last", x.ears(8), 1);
        C.due("1: none behind it", x.ears(9), CornWay.UNKNOWN);
        C.due("1: the beginning", x.told(4), 0);
        C.due("1: spill", x.told(5), 0);
    }

    private static void promise1NothingIsSaidOrKeptAtFirst() {
        C.due("1: no signs", new CornWay().told(0), 0);
        E.refuses("1: image 0 is not kept", CornWay::new, x -> x.restore(0), CornWay.STATE);
        E.refuses("1: image 1 is not kept", CornWay::new, x -> x.restore(1), CornWay.STATE);
        CornWay other = new CornWay();
        other.image(0);
        other.say('n');
        other.spill(3);
        C.due("1: what another object keeps is its own", new CornWay().restore(0), CornWay.STATE);
        C.due("1: what it is told, too", new CornWay().told(0) + new CornWay().told(5), 0);
    }

    private static void promise2RowsAreOneToFive() {
        for (int columns = 1; columns <= 3; columns++) {
            int c = columns;
            E.takes("2: rows by " + c, EdgesOfFieldsTest::used, (x, rows) -> x.field(rows, c), 1, 5, CornWay.OUTSIDE);
        }
    }

    private static void promise2ColumnsAreOneToFive() {
        for (int rows = 1; rows <= 3; rows++) {
            int r = rows;
            E.takes("2: columns by " + r, EdgesOfFieldsTest::used, (x, columns) -> x.field(r, columns), 1, 5,
                CornWay.OUTSIDE);
        }
    }

    private static void promise2SixteenPlacesAtMost() {
        E.answers("2: 4 by 4", CornWay::new, x -> x.field(4, 4), 16);
        E.answers("2: 3 by 5", CornWay::new, x -> x.field(3, 5), 15);
        E.answers("2: 5 by 3", CornWay::new, x -> x.field(5, 3), 15);
        E.refuses("2: 4 by 5", EdgesOfFieldsTest::used, x -> x.field(4, 5), CornWay.OUTSIDE);
        E.refuses("2: 5 by 4", EdgesOfFieldsTest::used, x -> x.field(5, 4), CornWay.OUTSIDE);
        E.refuses("2: 5 by 5", EdgesOfFieldsTest::used, x -> x.field(5, 5), CornWay.OUTSIDE);
        E.refuses("2: 2 by 8, 16 places, but 8 columns", EdgesOfFieldsTest::used, x -> x.field(2, 8), CornWay.OUTSIDE);
        E.refuses("2: 8 by 2", EdgesOfFieldsTest::used, x -> x.field(8, 2), CornWay.OUTSIDE);
        E.refuses("2: 16 by 1", EdgesOfFieldsTest::used, x -> x.field(16, 1), CornWay.OUTSIDE);
        E.refuses("2: 1 by 16", EdgesOfFieldsTest::used, x -> x.field(1, 16), CornWay.OUTSIDE);
    }

    private static void promise2ProductsThatWrapAround() {
        int[][] sides = {
            {-1, -1}, {-4, -4}, {-3, -3}, {0, 0}, {65536, 65536}, {65537, 65537}, {1 << 30, 4}, {4, 1 << 30},
            {MIN, MIN}, {MAX, MAX}, {MIN, MAX}, {MAX, MIN}, {MIN, 1}, {1, MIN}, {MAX, 1}, {1, MAX}, {0, MAX}, {MIN, 0}
        };
        for (int[] side : sides) {
            E.refuses("2: field(" + side[0] + ", " + side[1] + ")", EdgesOfFieldsTest::used,
                x -> x.field(side[0], side[1]), CornWay.OUTSIDE);
        }
    }

    private static void promise2AllHaveOneEarThen() {
        int[][] sides = {{1, 1}, {1, 5}, {5, 1}, {3, 5}, {5, 3}, {4, 4}};
        for (int[] side : sides) {
            CornWay x = Checks.sown(4, 4, "9#09#90#90#90#90");
            int places = x.field(side[0], side[1]);
            C.due("2: places that are no stones", x.told(3), places);
            for (int place = 0; place < places; place++) {
                C.due("2: ears(" + place + ") of " + places, x.ears(place), 1);
            }
            C.due("2: none behind them", x.ears(places), CornWay.UNKNOWN);
        }
    }

    private static void promise2TheBeginningIsZeroThen() {
        CornWay x = new CornWay();
        x.field(4, 4);
        x.begin(15);
        C.due("2: the same field anew", x.field(4, 4), 16);
        C.due("2: it begins at 0", x.told(4), 0);
        x.begin(15);
        x.field(1, 1);
        C.due("2: a field that has no place 15", x.told(4), 0);
        Checks.write(x, "");
        C.due("2: its way ends there", x.way(0), 0);
        CornWay y = Checks.sown(1, 3, "##5");
        C.due("2: behind stones", y.told(4), 2);
        y.field(1, 3);
        C.due("2: no stone is there then", y.told(4), 0);
    }

    private static void promise3CodesAre33To126() {
        E.takes("3: code", EdgesOfFieldsTest::used, CornWay::say, 33, 126, CornWay.OUTSIDE);
        for (int sign = 33; sign <= 126; sign++) {
            int code = sign;
            E.answers("3: say(" + code + ")", CornWay::new, x -> x.say(code), 1);
        }
        E.refuses("3: say(0)", EdgesOfFieldsTest::used, x -> x.say(0), CornWay.OUTSIDE);
        E.refuses("3: say(-110)", EdgesOfFieldsTest::used, x -> x.say(-'n'), CornWay.OUTSIDE);
        E.refuses("3: 65536 and n", EdgesOfFieldsTest::used, x -> x.say(65536 + 'n'), CornWay.OUTSIDE);
    }

    private static void promise3ThePadHoldsForty() {
        CornWay x = new CornWay();
        for (int n = 1; n <= 40; n++) {
            C.due("3: the sign " + n, x.say('e'), n);
        }
        C.due("3: a sign 41", x.say('e'), CornWay.FULL);
        C.due("3: 40 stand", x.told(0), 40);
        x.wipe();
        C.due("3: wiped, it takes one", x.say('e'), 1);
        E.refuses("3: full of steps", () -> padded(40, 'e'), y -> y.say('x'), CornWay.FULL);
        E.refuses("3: full of digits", () -> padded(40, '7'), y -> y.say('#'), CornWay.FULL);
        E.answers("3: the last that is left", () -> padded(39, '7'), y -> y.say('#'), 40);
    }

    private static void promise3OutsideIsAheadOfFull() {
        for (int sign : new int[] {MIN, -1, 0, 32, 127, 128, MAX}) {
            E.refuses("3: say(" + sign + ") when it is full", () -> padded(40, 'e'), x -> x.say(sign), CornWay.OUTSIDE);
        }
    }

    private static void promise4WipeOfNoneAndOfForty() {
        E.refuses("4: none, which changes nothing", CornWay::new, CornWay::wipe, 0);
        for (int signs : new int[] {1, 39, 40}) {
            CornWay x = padded(signs, '#');
            C.due("4: wipe() of " + signs, x.wipe(), signs);
            C.due("4: none are left", x.told(0), 0);
            C.due("4: none to wipe", x.wipe(), 0);
            C.due("4: the field stays", x.told(3), 9);
        }
        CornWay y = used();
        y.wipe();
        C.due("4: stones stay", y.ears(2), CornWay.NONE);
        C.due("4: the beginning stays", y.told(4), 4);
        C.due("4: spill stays", y.told(5), 7);
        C.due("4: an image stays", y.restore(1), 1);
    }

    private static void promise5HowIsZeroOrOne() {
        Supplier<CornWay> way = EdgesOfFieldsTest::used;
        Supplier<CornWay> full = () -> padded(40, '#');
        E.takes("5: how", CornWay::new, CornWay::fault, 0, 1, CornWay.OUTSIDE);
        E.takes("5: how, of a way", way, CornWay::fault, 0, 1, CornWay.OUTSIDE);
        E.takes("5: how, of a full pad", full, CornWay::fault, 0, 1, CornWay.OUTSIDE);
    }

    private static void promise5AnEmptyPad() {
        for (int side = 1; side <= 4; side++) {
            CornWay x = new CornWay();
            x.field(side, side);
            C.due("5: of a field more must come", x.fault(0), 0);
            C.due("5: a way of no steps is one", x.fault(1), CornWay.NONE);
        }
    }

    private static void promise5AFullPad() {
        CornWay x = padded(40, '9');
        C.due("5: 40 digits, 9 places", x.fault(0), 9);
        C.due("5: digits are no steps", x.fault(1), 0);
        x.field(4, 4);
        C.due("5: 40 digits, 16 places", x.fault(0), 16);
        x.field(1, 1);
        C.due("5: 40 digits, one place", x.fault(0), 1);
        C.due("5: 40 steps, a way that stands", padded(40, 'w').fault(1), CornWay.NONE);
        CornWay y = padded(39, 'w');
        y.say('x');
        C.due("5: the 40th is none", y.fault(1), 39);
    }

    private static void promise5SignsBesideThoseThatCanStand() {
        String field = "#0123456789";
        String way = "nesw";
        for (int sign = 33; sign <= 126; sign++) {
            CornWay x = new CornWay();
            x.field(1, 1);
            x.say(sign);
            C.due("5: fault(0) of the sign " + sign, x.fault(0), field.indexOf(sign) >= 0 ? CornWay.NONE : 0);
            C.due("5: fault(1) of the sign " + sign, x.fault(1), way.indexOf(sign) >= 0 ? CornWay.NONE : 0);
        }
    }

    private static void promise5MoreMustCome() {
        int[][] sides = {{1, 1}, {1, 5}, {3, 3}, {5, 3}, {4, 4}};
        for (int[] side : sides) {
            CornWay x = new CornWay();
            int places = x.field(side[0], side[1]);
            for (int n = 0; n < places; n++) {
                C.due("5: " + n + " of " + places, x.fault(0), n);
                x.say(n % 2 == 0 ? '#' : '0');
            }
            C.due("5: all " + places, x.fault(0), CornWay.NONE);
        }
    }

    private static void promise5OneSignTooMany() {
        int[][] sides = {{1, 1}, {5, 1}, {3, 3}, {3, 5}, {4, 4}};
        for (int[] side : sides) {
            CornWay x = new CornWay();
            int places = x.field(side[0], side[1]);
            for (int n = 0; n <= places; n++) {
                x.say('4');
            }
            C.due("5: one more than " + places, x.fault(0), places);
            x.say('x');
            C.due("5: two more, the first counts", x.fault(0), places);
        }
    }

    private static void promise5TheFirstOfSeveralFaults() {
        CornWay x = new CornWay();
        x.field(1, 3);
        Checks.write(x, "x#x");
        C.due("5: at the first sign", x.fault(0), 0);
        Checks.write(x, "1x3x");
        C.due("5: ahead of one too many", x.fault(0), 1);
        Checks.write(x, "1x");
        C.due("5: ahead of more that must come", x.fault(0), 1);
        Checks.write(x, "n1x");
        C.due("5: of a way", x.fault(1), 1);
    }

    private static void promise6AFieldOfOnePlace() {
        for (int ears = 0; ears <= 9; ears++) {
            CornWay x = Checks.sown(1, 1, "");
            x.say('0' + ears);
            C.due("6: one place of " + ears, x.sow(), 1);
            C.due("6: its ears", x.ears(0), ears);
            C.due("6: it is the beginning", x.told(4), 0);
            C.due("6: the pad is empty", x.told(0), 0);
        }
    }

    private static void promise6AFieldOfSixteen() {
        CornWay x = new CornWay();
        x.field(4, 4);
        Checks.write(x, "0123456789012345");
        C.due("6: no stones", x.sow(), 16);
        for (int place = 0; place < 16; place++) {
            C.due("6: ears(" + place + ")", x.ears(place), place % 10);
        }
        Checks.write(x, "0#2#4#6#8#0#2#4#");
        C.due("6: eight stones", x.sow(), 8);
        Checks.write(x, "###############5");
        C.due("6: fifteen stones", x.sow(), 1);
        C.due("6: the last is the beginning", x.told(4), 15);
        C.due("6: ears of it", x.ears(15), 5);
    }

    private static void promise6AllAreStones() {
        int[][] sides = {{1, 1}, {1, 5}, {3, 3}, {5, 3}, {4, 4}};
        for (int[] side : sides) {
            Supplier<CornWay> stones = () -> {
                CornWay x = new CornWay();
                int places = x.field(side[0], side[1]);
                x.spill(2);
                x.begin(places - 1);
                x.image(0);
                Checks.write(x, "#".repeat(places));
                return x;
            };
            E.refuses("6: stones alone, " + side[0] + " by " + side[1], stones, CornWay::sow, CornWay.STATE);
            E.answers("6: they are no fault", stones, x -> x.fault(0), CornWay.NONE);
        }
    }

    private static void promise6ThereIsAFault() {
        int[][] sides = {{1, 1}, {3, 3}, {4, 4}};
        for (int[] side : sides) {
            int places = side[0] * side[1];
            String[] texts = {
                "", "#".repeat(places - 1), "1".repeat(places - 1), "#".repeat(places + 1), "1".repeat(places + 1),
                "n" + "1".repeat(places - 1), "1".repeat(places - 1) + "x", "x" + "#".repeat(places - 1),
                "1".repeat(40), "#".repeat(40)
            };
            for (String text : texts) {
                E.refuses("6: sow() of '" + text + "', " + places + " places", () -> {
                    CornWay x = new CornWay();
                    x.field(side[0], side[1]);
                    Checks.write(x, text);
                    return x;
                }, CornWay::sow, CornWay.NO);
            }
        }
    }

    private static void promise6TheFirstPlaceThatIsNoStone() {
        for (int stones = 0; stones < 16; stones++) {
            CornWay x = new CornWay();
            x.field(4, 4);
            x.begin(7);
            Checks.write(x, "#".repeat(stones) + "0".repeat(16 - stones));
            C.due("6: behind " + stones + " stones", x.sow(), 16 - stones);
            C.due("6: it begins behind them", x.told(4), stones);
        }
    }

    private static void promise7EarsAreZeroToNine() {
        CornWay x = Checks.sown(3, 4, "#0123456789#");
        C.due("7: a stone first", x.ears(0), CornWay.NONE);
        for (int ears = 0; ears <= 9; ears++) {
            C.due("7: ears " + ears, x.ears(ears + 1), ears);
        }
        C.due("7: a stone last", x.ears(11), CornWay.NONE);
    }

    private static void promise7ThereIsNoSuchPlace() {
        E.takes("7: of one place", () -> Checks.sown(1, 1, "4"), CornWay::ears, 0, 0, CornWay.UNKNOWN);
        E.takes("7: of nine", CornWay::new, CornWay::ears, 0, 8, CornWay.UNKNOWN);
        E.takes("7: of 15", () -> Checks.sown(5, 3, "1".repeat(15)), CornWay::ears, 0, 14, CornWay.UNKNOWN);
        E.takes("7: of 16", () -> Checks.sown(4, 4, "1".repeat(16)), CornWay::ears, 0, 15, CornWay.UNKNOWN);
    }

    private static void promise8ThereIsNoSuchPlace() {
        E.takes("8: of one place", () -> Checks.sown(1, 1, "4"), CornWay::begin, 0, 0, CornWay.UNKNOWN);
        E.takes("8: of nine", CornWay::new, CornWay::begin, 0, 8, CornWay.UNKNOWN);
        E.takes("8: of 15", () -> Checks.sown(3, 5, "1".repeat(15)), CornWay::begin, 0, 14, CornWay.UNKNOWN);
        E.takes("8: of 16", () -> Checks.sown(4, 4, "1".repeat(16)), CornWay::begin, 0, 15, CornWay.UNKNOWN);
        CornWay x = Checks.sown(4, 4, "1".repeat(16));
        C.due("8: begin(15)", x.begin(15), 0);
        C.due("8: begin(0)", x.begin(0), 15);
        C.due("8: begin(0) where it is", x.begin(0), 0);
    }

    private static void promise8AStone() {
        E.refuses("8: the first", () -> Checks.sown(4, 4, "#" + "1".repeat(15)), x -> x.begin(0), CornWay.STATE);
        E.refuses("8: the last", () -> Checks.sown(4, 4, "1".repeat(15) + "#"), x -> x.begin(15), CornWay.STATE);
        E.refuses("8: between", EdgesOfFieldsTest::used, x -> x.begin(2), CornWay.STATE);
        E.answers("8: no ears are no stone", () -> Checks.sown(1, 2, "10"), x -> x.begin(1), 0);
    }

    private static void promise9SpillIsZeroToNine() {
        E.takes("9: spill", CornWay::new, CornWay::spill, 0, 9, CornWay.OUTSIDE);
        E.takes("9: spill, another before", EdgesOfFieldsTest::used, CornWay::spill, 0, 9, CornWay.OUTSIDE);
        CornWay x = new CornWay();
        C.due("9: 0 at first", x.spill(9), 0);
        C.due("9: the greatest", x.spill(9), 9);
        C.due("9: it was that", x.spill(0), 9);
        C.due("9: the least", x.spill(0), 0);
    }

    private static void usedFor512Calls() {
        CornWay x = new CornWay();
        for (int call = 1; call <= 512; call++) {
            int n = call - 1;
            if (n < 40) {
                C.due("the call " + call, x.say('e'), n + 1);
            } else if (n < 511) {
                C.due("the call " + call, x.say('e'), CornWay.FULL);
            } else {
                C.due("the call 512", x.wipe(), 40);
            }
        }
    }

    /** A field with all that can be told told: stones, a beginning, spill, a pad, one image of another field. */
    private static CornWay used() {
        CornWay x = new CornWay();
        x.field(4, 4);
        x.begin(9);
        x.image(1);
        x.field(2, 3);
        Checks.write(x, "35#094");
        x.sow();
        x.begin(4);
        x.spill(7);
        Checks.write(x, "nw");
        return x;
    }

    private static CornWay padded(int signs, int sign) {
        CornWay x = new CornWay();
        for (int n = 0; n < signs; n++) {
            x.say(sign);
        }
        return x;
    }
}
