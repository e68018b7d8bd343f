import java.util.function.Supplier;

/** The boundary cases of promises 17 to 25, a method for each sentence of the document that names one. */
public final class EdgesOfSharingTest {
    private static final Checks C = new Checks("EdgesOfSharingTest");
    private static final Edges E = new Edges(C);
    private static final int MIN = Edges.MIN;
    private static final int MAX = Edges.MAX;
    private static final String THROUGH_ALL = "eeeswwwseeeswww";
    /** Fields of 12 PLACES that are no stones, and the same with one stone fewer. */
    private static final String[] TWELVE = {
        "####" + "1".repeat(12), "1".repeat(12) + "####", "1#11" + "1#11" + "1#11" + "111#"
    };
    private static final String[] THIRTEEN = {
        "###1" + "1".repeat(12), "1".repeat(12) + "###1", "1#11" + "1#11" + "1#11" + "1111"
    };

    public static void main(String[] args) {
        promise17TwelvePlacesAtMost();
        promise17PlacesThatCanNotBeComeTo();
        promise17OnePlace();
        promise17OneWhoIsBlindStands();
        promise18TwelvePlacesAtMost();
        promise18OnePlace();
        promise18LessThanThousand();
        promise18AllAreHis();
        promise19WhatIsZeroOrOne();
        promise19OnePlace();
        promise19Sixteen();
        promise19TheFirst();
        promise20OnePlace();
        promise20TheLastBit();
        promise20None();
        promise21KIsZeroToTwelve();
        promise21NoStepsMore();
        promise21MoreStepsThanThereAre();
        promise21AStepThatCanNotBe();
        promise21ThereIsAFault();
        promise21OutsideIsAheadOfStateAndNo();
        promise22SeedIsZeroTo9999();
        promise22WhatIsZeroOrOne();
        promise22BothAreOutside();
        promise22OnePlace();
        promise22LeftOverBy65537();
        promise22AsLongAsItIsNotBlind();
        promise23ImagesAreZeroAndOne();
        promise23AllButThePad();
        promise23KeptAnew();
        promise24ImagesAreZeroAndOne();
        promise24ItWasNotKept();
        promise24AsItWasFromOneTo16();
        promise24KeptOn();
        promise25WhatIsZeroToFive();
        promise25TheLeastAndTheMost();
        C.end();
    }

    private static void promise17TwelvePlacesAtMost() {
        C.due("17: 3 by 4", told(3, 4, 0, "").two(), 12);
        C.due("17: 4 by 3", told(4, 3, 0, "").two(), 12);
        for (String text : TWELVE) {
            C.holds("17: 12 in 16, " + text, Checks.sown(4, 4, text).two() > 0);
        }
        for (String text : THIRTEEN) {
            E.refuses("17: 13 in 16, " + text, () -> Checks.sown(4, 4, text), CornWay::two, CornWay.FULL);
        }
        E.refuses("17: 13 in 15", () -> Checks.sown(3, 5, "#" + "1".repeat(13) + "#"), CornWay::two, CornWay.FULL);
        E.refuses("17: 15", () -> told(5, 3, 0, ""), CornWay::two, CornWay.FULL);
        E.refuses("17: 16", () -> told(4, 4, 0, ""), CornWay::two, CornWay.FULL);
    }

    private static void promise17PlacesThatCanNotBeComeTo() {
        String alone = "1#11" + "#111" + "1111" + "11##";
        E.answers("17: 12, all but one out of reach", () -> Checks.sown(4, 4, alone), CornWay::two, 1);
        String more = "1#11" + "#111" + "1111" + "111#";
        E.refuses("17: 13, though out of reach", () -> Checks.sown(4, 4, more), CornWay::two, CornWay.FULL);
        E.refuses("18: 13, though out of reach", () -> Checks.sown(4, 4, more), CornWay::game, CornWay.FULL);
    }

    private static void promise17OnePlace() {
        C.due("17: the beginning is cut once", told(1, 1, 0, "").two(), 1);
        C.due("17: the last among stones", Checks.sown(4, 4, "#".repeat(15) + "1").two(), 1);
        C.due("17: two places, one goes", told(1, 2, 1, "").two(), 2);
        C.due("17: three, one each", told(1, 3, 1, "").two(), 3);
    }

    private static void promise17OneWhoIsBlindStands() {
        C.due("17: the second one stands at once", told(1, 5, 0, "").two(), 5);
        C.due("17: the second one stands behind a step", told(1, 5, 1, "").two(), 5);
        C.due("17: the way on the pad changes nothing", told(1, 5, 1, "eee").two(), 5);
        C.due("17: nor does one with a fault", told(1, 5, 1, "x").two(), 5);
        CornWay x = Checks.sown(2, 3, "111" + "#1#");
        x.begin(1);
        C.due("17: two of three arms", x.two(), 3);
        CornWay y = Checks.sown(4, 4, "1111" + "###1" + "1111" + "111#");
        C.due("17: he stands eleven times, none is left", y.two(), 12);
    }

    private static void promise18TwelvePlacesAtMost() {
        C.holds("18: 3 by 4", told(3, 4, 0, "").game() >= 1000 - 11);
        C.holds("18: 4 by 3", told(4, 3, 0, "").game() >= 1000 - 11);
        for (String text : TWELVE) {
            C.holds("18: 12 in 16, " + text, Checks.sown(4, 4, text).game() >= 1000 - 11);
        }
        for (String text : THIRTEEN) {
            E.refuses("18: 13 in 16, " + text, () -> Checks.sown(4, 4, text), CornWay::game, CornWay.FULL);
        }
        E.refuses("18: 13 in 15", () -> Checks.sown(3, 5, "#" + "1".repeat(13) + "#"), CornWay::game, CornWay.FULL);
        E.refuses("18: 15", () -> told(5, 3, 0, ""), CornWay::game, CornWay.FULL);
        E.refuses("18: 16", () -> told(4, 4, 0, ""), CornWay::game, CornWay.FULL);
    }

    private static void promise18OnePlace() {
        C.due("18: the beginning is nobody's", told(1, 1, 0, "").game(), 1000);
        C.due("18: the last among stones", Checks.sown(4, 4, "#".repeat(15) + "9").game(), 1000);
        C.due("18: two places", told(1, 2, 0, "").game(), 1001);
        C.due("18: three, one each", told(1, 3, 1, "").game(), 1000);
    }

    private static void promise18LessThanThousand() {
        CornWay x = Checks.sown(4, 4, "1111" + "1111" + "11##" + "11##");
        x.begin(5);
        C.due("18: the second one has one more", x.game(), 999);
    }

    private static void promise18AllAreHis() {
        CornWay x = Checks.sown(4, 4, "1111" + "###1" + "#111" + "#111");
        C.due("18: he goes in, the other one stands", x.game(), 1000 + x.longest(-1) - 1);
        CornWay y = Checks.sown(4, 4, "1111" + "###1" + "1111" + "111#");
        C.due("18: all eleven of twelve", y.game(), 1011);
        CornWay z = Checks.sown(4, 4, "1111" + "###1" + "1111" + "1###");
        C.due("18: ten places one behind the other", z.game(), 1009);
        z.begin(12);
        C.due("18: from the other end", z.game(), 1009);
    }

    private static void promise19WhatIsZeroOrOne() {
        E.takes("19: what", CornWay::new, CornWay::where, 0, 1, CornWay.OUTSIDE);
        E.takes("19: what, one place", () -> told(1, 1, 0, "x"), CornWay::where, 0, 1, CornWay.OUTSIDE);
        E.takes("19: what, 16 places", () -> told(4, 4, 9, "n"), CornWay::where, 0, 1, CornWay.OUTSIDE);
    }

    private static void promise19OnePlace() {
        C.due("19: where", told(1, 1, 0, "").where(0), 0);
        C.due("19: how long", told(1, 1, 0, "").where(1), 1);
        CornWay x = Checks.sown(4, 4, "#".repeat(15) + "0");
        C.due("19: the last", x.where(0), 15);
        C.due("19: how long there", x.where(1), 1);
    }

    private static void promise19Sixteen() {
        CornWay x = told(4, 4, 15, "");
        C.due("19: the first of 16", x.where(0), 0);
        C.due("19: through all", x.where(1), 16);
        C.due("19: the beginning stays", x.told(4), 15);
        CornWay y = Checks.sown(4, 4, "1#" + "#".repeat(12) + "11");
        C.due("19: two at the end are more than one at first", y.where(0), 14);
        C.due("19: two", y.where(1), 2);
    }

    private static void promise19TheFirst() {
        CornWay v = Checks.sown(5, 1, "#1111");
        v.begin(3);
        C.due("19: one column", v.where(0), 1);
        C.due("19: all four of it", v.where(1), 4);
        CornWay x = Checks.sown(1, 5, "11#11");
        C.due("19: of four alike", x.where(0), 0);
        CornWay y = Checks.sown(1, 5, "1#1#1");
        y.begin(4);
        C.due("19: of three alone", y.where(0), 0);
        C.due("19: one", y.where(1), 1);
        CornWay z = Checks.sown(1, 5, "##1#1");
        C.due("19: a stone is none", z.where(0), 2);
        CornWay u = Checks.sown(3, 3, "111" + "#1#" + "#1#");
        C.due("19: by its colours 2 could have five", u.where(0), 0);
        C.due("19: but four it is, as from 0", u.where(1), 4);
    }

    private static void promise20OnePlace() {
        C.due("20: where it begins", told(1, 1, 0, "").last(), 1);
        C.due("20: the last of 16 alone", Checks.sown(4, 4, "#".repeat(15) + "0").last(), 32768);
    }

    private static void promise20TheLastBit() {
        C.due("20: the last of 16", Checks.sown(4, 4, "#".repeat(14) + "11").last(), 32768);
        CornWay x = Checks.sown(4, 4, "11" + "#".repeat(14));
        x.begin(1);
        C.due("20: the first of 16", x.last(), 1);
        C.due("20: a row", told(1, 5, 0, "").last(), 16);
        C.due("20: from its other end", told(1, 5, 4, "").last(), 1);
    }

    private static void promise20None() {
        C.due("20: from the middle of a row", told(1, 5, 2, "").last(), 0);
        C.due("20: one out of reach", Checks.sown(1, 5, "111#1").last(), 0);
        C.due("20: by colours none", told(5, 3, 1, "").last(), 0);
    }

    private static void promise21KIsZeroToTwelve() {
        E.takes("21: k, no steps", CornWay::new, CornWay::goesOn, 0, 12, CornWay.OUTSIDE);
        E.takes("21: k, 16 places", () -> told(4, 4, 0, ""), CornWay::goesOn, 0, 12, CornWay.OUTSIDE);
        E.takes("21: k, all steps", () -> told(4, 4, 0, THROUGH_ALL), CornWay::goesOn, 0, 12, CornWay.OUTSIDE);
        PlainCorn plain = new PlainCorn();
        plain.field(4, 4);
        C.due("21: twelve steps in 16", told(4, 4, 0, "").goesOn(12), plain.goesOn(12));
        C.holds("21: there are such", plain.goesOn(12) > 0);
    }

    private static void promise21NoStepsMore() {
        C.due("21: the way itself", told(3, 3, 0, "").goesOn(0), 1);
        C.due("21: when it is blind too", told(3, 3, 0, "eesswwne").goesOn(0), 1);
        C.due("21: of one place", told(1, 1, 0, "").goesOn(0), 1);
        C.due("21: when all is cut", told(4, 4, 0, THROUGH_ALL).goesOn(0), 1);
    }

    private static void promise21MoreStepsThanThereAre() {
        C.due("21: of one place", told(1, 1, 0, "").goesOn(1), 0);
        C.due("21: a row, its last step", told(1, 5, 0, "").goesOn(4), 1);
        C.due("21: a row, one more", told(1, 5, 0, "").goesOn(5), 0);
        C.due("21: a row, twelve", told(1, 5, 0, "").goesOn(12), 0);
        C.due("21: one is left", told(4, 4, 0, THROUGH_ALL.substring(0, 14)).goesOn(1), 1);
        C.due("21: none is left", told(4, 4, 0, THROUGH_ALL).goesOn(1), 0);
        C.due("21: just twelve are left", told(4, 4, 0, "eee").goesOn(12) > 0 ? 1 : 0, 1);
        C.due("21: only eleven are", told(4, 4, 0, "eees").goesOn(12), 0);
    }

    private static void promise21AStepThatCanNotBe() {
        for (String text : new String[] {"n", "ew", "e".repeat(40)}) {
            for (int k : new int[] {0, 12}) {
                E.refuses("21: goesOn(" + k + ") of " + text, () -> told(3, 3, 0, text), x -> x.goesOn(k),
                    CornWay.STATE);
            }
        }
    }

    private static void promise21ThereIsAFault() {
        for (String text : new String[] {"x", "nx", "e".repeat(39) + "x", "1".repeat(40)}) {
            for (int k : new int[] {0, 12}) {
                E.refuses("21: goesOn(" + k + ") of " + text, () -> told(3, 3, 0, text), x -> x.goesOn(k), CornWay.NO);
            }
        }
    }

    private static void promise21OutsideIsAheadOfStateAndNo() {
        for (String text : new String[] {"n", "x", "e".repeat(40), "#".repeat(40)}) {
            for (int k : new int[] {MIN, -1, 13, MAX}) {
                E.refuses("21: goesOn(" + k + ") of " + text, () -> told(3, 3, 0, text), x -> x.goesOn(k),
                    CornWay.OUTSIDE);
            }
        }
    }

    private static void promise22SeedIsZeroTo9999() {
        for (int what = 0; what <= 1; what++) {
            int w = what;
            E.takes("22: seed", CornWay::new, (x, seed) -> x.drawn(seed, w), 0, 9999, CornWay.OUTSIDE);
            E.takes("22: seed, one place", () -> told(1, 1, 0, ""), (x, seed) -> x.drawn(seed, w), 0, 9999,
                CornWay.OUTSIDE);
        }
        PlainCorn plain = new PlainCorn();
        for (int seed : new int[] {0, 1, 9998, 9999}) {
            C.due("22: drawn(" + seed + ", 0)", new CornWay().drawn(seed, 0), plain.drawn(seed, 0));
            C.due("22: drawn(" + seed + ", 1)", new CornWay().drawn(seed, 1), plain.drawn(seed, 1));
        }
    }

    private static void promise22WhatIsZeroOrOne() {
        for (int seed : new int[] {0, 9999}) {
            E.takes("22: what, seed " + seed, () -> told(4, 4, 5, "x"), (x, what) -> x.drawn(seed, what), 0, 1,
                CornWay.OUTSIDE);
        }
    }

    private static void promise22BothAreOutside() {
        for (int seed : new int[] {MIN, -1, 10000, MAX}) {
            for (int what : new int[] {MIN, -1, 2, MAX}) {
                E.refuses("22: drawn(" + seed + ", " + what + ")", () -> told(3, 3, 4, "n"),
                    x -> x.drawn(seed, what), CornWay.OUTSIDE);
            }
        }
    }

    private static void promise22OnePlace() {
        for (int seed : new int[] {0, 5000, 9999}) {
            C.due("22: one is cut", told(1, 1, 0, "").drawn(seed, 0), 1);
            C.due("22: it ends there", told(1, 1, 0, "").drawn(seed, 1), 0);
            CornWay x = Checks.sown(4, 4, "#".repeat(15) + "0");
            C.due("22: one is cut among stones", x.drawn(seed, 0), 1);
            C.due("22: it ends at the last", x.drawn(seed, 1), 15);
        }
    }

    private static void promise22LeftOverBy65537() {
        CornWay x = told(1, 3, 1, "");
        C.due("22: 872 becomes 65474, even: e", x.drawn(872, 1), 2);
        C.due("22: 873 becomes 65549 less 65537, 12: e", x.drawn(873, 1), 2);
        C.due("22: 874 becomes 87: w", x.drawn(874, 1), 0);
        C.due("22: 871 becomes 65399: w", x.drawn(871, 1), 0);
        C.due("22: 9999 becomes 749999 less 11 times 65537, 29092: e", x.drawn(9999, 1), 2);
    }

    private static void promise22AsLongAsItIsNotBlind() {
        for (int seed = 0; seed < 10000; seed += 1111) {
            C.due("22: along a row", told(1, 5, 0, "").drawn(seed, 0), 5);
            C.due("22: to its end", told(1, 5, 0, "").drawn(seed, 1), 4);
            C.due("22: round four", told(2, 2, 0, "").drawn(seed, 0), 4);
        }
        C.due("22: the way on the pad changes nothing", told(1, 5, 0, "eee").drawn(7, 0), 5);
        C.due("22: nor does one with a fault", told(1, 5, 0, "x").drawn(7, 1), 4);
        boolean all = false;
        for (int seed = 0; seed < 3000 && !all; seed++) {
            all = told(4, 4, 0, "").drawn(seed, 0) == 16;
        }
        C.holds("22: some seed cuts all 16", all);
    }

    private static void promise23ImagesAreZeroAndOne() {
        E.takes("23: n, none kept", CornWay::new, CornWay::image, 0, 1, CornWay.OUTSIDE);
        E.takes("23: n, both kept", EdgesOfSharingTest::withImages, CornWay::image, 0, 1, CornWay.OUTSIDE);
    }

    private static void promise23AllButThePad() {
        for (int signs : new int[] {0, 1, 40}) {
            CornWay x = told(3, 3, 0, "e".repeat(signs));
            C.due("23: image(0) with " + signs + " signs", x.image(0), 1);
            C.due("23: they stand on", x.told(0), signs);
            x.wipe();
            x.restore(0);
            C.due("24: they are not brought back", x.told(0), 0);
            x.say('n');
            x.restore(0);
            C.due("24: nor is another pad taken away", x.told(0), 1);
            C.due("24: it is the same pad", x.judge(1), 1);
        }
    }

    private static void promise23KeptAnew() {
        CornWay x = told(4, 4, 15, "");
        C.due("23: image(0)", x.image(0), 1);
        x.field(1, 1);
        C.due("23: image(0) anew", x.image(0), 1);
        x.field(5, 3);
        x.restore(0);
        C.due("23: the newer one", x.told(3), 1);
        C.due("23: the other one is not kept by it", x.restore(1), CornWay.STATE);
    }

    private static void promise24ImagesAreZeroAndOne() {
        E.takes("24: n", EdgesOfSharingTest::withImages, CornWay::restore, 0, 1, CornWay.OUTSIDE);
        for (int n : new int[] {MIN, -1, 2, MAX}) {
            E.refuses("24: restore(" + n + "), none kept", CornWay::new, x -> x.restore(n), CornWay.OUTSIDE);
        }
    }

    private static void promise24ItWasNotKept() {
        for (int n = 0; n <= 1; n++) {
            int kept = n;
            Supplier<CornWay> one = () -> {
                CornWay x = told(2, 3, 4, "nw");
                x.image(kept);
                x.spill(3);
                x.begin(1);
                return x;
            };
            E.refuses("24: only " + kept + " was kept", one, x -> x.restore(1 - kept), CornWay.STATE);
            E.answers("24: that one was", one, x -> x.restore(kept), 1);
        }
        CornWay y = new CornWay();
        y.image(2);
        y.image(-1);
        C.due("24: what was refused keeps nothing in 0", y.restore(0), CornWay.STATE);
        C.due("24: nor in 1", y.restore(1), CornWay.STATE);
    }

    private static void promise24AsItWasFromOneTo16() {
        CornWay x = Checks.sown(4, 4, "9#0#1234567890#8");
        x.begin(15);
        x.spill(9);
        x.image(0);
        x.field(1, 1);
        x.spill(0);
        x.image(1);
        C.due("24: back to 16", x.restore(0), 1);
        seen(x, "9#0#1234567890#8", 4, 4, 15, 9);
        C.due("24: on to one", x.restore(1), 1);
        seen(x, "1", 1, 1, 0, 0);
        C.due("24: no place behind it", x.ears(1), CornWay.UNKNOWN);
        C.due("24: a step leads beyond", x.say('s') == 1 ? x.judge(1) : 0, 1);
        C.due("24: back to 16 again", x.restore(0), 1);
        C.due("24: a step south of the last leads beyond there, too", x.judge(1), 1);
        x.wipe();
        x.say('n');
        C.due("24: north of it is a place", x.way(0), 11);
    }

    private static void promise24KeptOn() {
        CornWay x = Checks.sown(2, 2, "12#4");
        x.image(0);
        x.begin(3);
        x.spill(5);
        Checks.write(x, "####");
        x.sow();
        Checks.write(x, "9999");
        x.sow();
        x.restore(0);
        seen(x, "12#4", 2, 2, 0, 0);
        x.begin(1);
        x.restore(0);
        seen(x, "12#4", 2, 2, 0, 0);
    }

    private static void promise25WhatIsZeroToFive() {
        E.takes("25: what", CornWay::new, CornWay::told, 0, 5, CornWay.OUTSIDE);
        E.takes("25: what, both images kept", EdgesOfSharingTest::withImages, CornWay::told, 0, 5, CornWay.OUTSIDE);
    }

    private static void promise25TheLeastAndTheMost() {
        CornWay x = told(1, 1, 0, "");
        int[] least = {0, 1, 1, 1, 0, 0};
        for (int what = 0; what < least.length; what++) {
            C.due("25: told(" + what + "), the least", x.told(what), least[what]);
        }
        CornWay y = told(4, 4, 15, "e".repeat(41));
        y.spill(9);
        int[] most = {40, 4, 4, 16, 15, 9};
        for (int what = 0; what < most.length; what++) {
            C.due("25: told(" + what + "), the most", y.told(what), most[what]);
        }
        C.due("25: five rows", told(5, 3, 0, "").told(1), 5);
        C.due("25: five columns", told(3, 5, 0, "").told(2), 5);
        C.due("25: one that is no stone", Checks.sown(4, 4, "#".repeat(15) + "0").told(3), 1);
    }

    private static void seen(CornWay x, String field, int rows, int columns, int beginning, int spill) {
        C.due("24: rows", x.told(1), rows);
        C.due("24: columns", x.told(2), columns);
        C.due("24: the beginning", x.told(4), beginning);
        C.due("24: spill", x.told(5), spill);
        for (int place = 0; place < field.length(); place++) {
            int due = field.charAt(place) == '#' ? CornWay.NONE : field.charAt(place) - '0';
            C.due("24: ears(" + place + ")", x.ears(place), due);
        }
    }

    private static CornWay withImages() {
        CornWay x = Checks.sown(4, 4, "9#0#1234567890#8");
        x.begin(15);
        x.spill(9);
        x.image(0);
        x.field(1, 1);
        x.image(1);
        x.field(2, 3);
        x.spill(2);
        x.begin(5);
        Checks.write(x, "nw");
        return x;
    }

    private static CornWay told(int rows, int columns, int beginning, String way) {
        CornWay x = new CornWay();
        x.field(rows, columns);
        x.begin(beginning);
        Checks.write(x, way);
        return x;
    }
}
