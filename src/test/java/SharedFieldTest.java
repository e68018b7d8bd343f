/** Promises 17 to 25: two, where, on. */
public final class SharedFieldTest {
    private static final Checks C = new Checks("SharedFieldTest");

    public static void main(String[] args) {
        promise17Two();
        promise18Game();
        promise17And18Full();
        promise19Where();
        promise20Last();
        promise21GoesOn();
        promise22Drawn();
        promise23And24Images();
        promise25Told();
        C.end();
    }

    private static void promise17Two() {
        CornWay x = new CornWay();
        x.field(1, 5);
        C.due("17: from the end one goes, one stands", x.two(), 5);
        x.begin(2);
        C.due("17: back to back", x.two(), 5);
        x.begin(1);
        C.due("17: the one who is blind stands, the other goes on", x.two(), 5);
        x.field(1, 1);
        C.due("17: the beginning alone", x.two(), 1);
        CornWay y = Checks.sown(1, 5, "11#11");
        C.due("17: nobody leaps", y.two(), 2);
        CornWay z = Checks.sown(3, 3, "#1#111#1#");
        z.begin(4);
        C.due("17: two arms of a cross", z.two(), 3);
        z.begin(1);
        C.due("17: he who comes to the middle shuts the other in", z.two(), 3);
    }

    private static void promise18Game() {
        CornWay x = new CornWay();
        x.field(1, 5);
        C.due("18: the first one has the row", x.game(), 1004);
        x.begin(2);
        C.due("18: two each", x.game(), 1000);
        x.begin(1);
        C.due("18: the first takes the longer side", x.game(), 1002);
        x.field(1, 1);
        C.due("18: nobody cuts", x.game(), 1000);
        CornWay y = Checks.sown(2, 3, "11111#");
        y.begin(1);
        C.due("18: as told by going through all", y.game(), new PlainRun(2, 3, "11111#", 1).game());
        x.field(3, 4);
        for (int place = 0; place < 12; place++) {
            x.begin(place);
            C.due("18: 3 by 4 from " + place, x.game(), new PlainRun(3, 4, "111111111111", place).game());
            C.due("17: 3 by 4 from " + place, x.two(), new PlainRun(3, 4, "111111111111", place).two());
        }
    }

    private static void promise17And18Full() {
        CornWay x = new CornWay();
        x.field(3, 5);
        C.due("17: 15 places", x.two(), CornWay.FULL);
        C.due("18: 15 places", x.game(), CornWay.FULL);
        CornWay y = Checks.sown(3, 5, "1111111#1111#11");
        C.due("17: 13 places", y.two(), CornWay.FULL);
        C.due("18: 13 places", y.game(), CornWay.FULL);
        CornWay z = Checks.sown(4, 4, "111111111111####");
        C.due("17: 12 places", z.two(), 12);
        C.due("18: 12 places", z.game(), new PlainRun(4, 4, "111111111111####", 0).game());
    }

    private static void promise19Where() {
        CornWay v = new CornWay();
        v.begin(1);
        C.due("19: the first corner of 3 by 3", v.where(0), 0);
        C.due("19: all nine from there", v.where(1), 9);
        CornWay x = Checks.sown(2, 3, "35#094");
        C.due("19: where(0)", x.where(0), 1);
        C.due("19: where(1)", x.where(1), 5);
        C.due("19: where(2)", x.where(2), CornWay.OUTSIDE);
        C.due("19: where(-1)", x.where(-1), CornWay.OUTSIDE);
        x.begin(5);
        C.due("19: it does not go by the beginning", x.where(0), 1);
        C.due("19: which stays", x.told(4), 5);
        CornWay y = Checks.sown(1, 5, "#1#11");
        C.due("19: behind stones", y.where(0), 3);
        C.due("19: two places", y.where(1), 2);
        CornWay z = Checks.sown(1, 5, "##1#1");
        C.due("19: the first of several", z.where(0), 2);
        C.due("19: one place", z.where(1), 1);
        CornWay w = Checks.sown(3, 3, "#1#111#1#");
        C.due("19: a cross", w.where(0), 1);
        C.due("19: three places", w.where(1), 3);
    }

    private static void promise20Last() {
        CornWay x = new CornWay();
        C.due("20: corners and the middle", x.last(), 4 + 16 + 64 + 256);
        x.begin(1);
        C.due("20: none", x.last(), 0);
        x.field(1, 1);
        C.due("20: the beginning itself", x.last(), 1);
        x.field(4, 4);
        C.due("20: 4 by 4", x.last(), 23130);
        CornWay y = Checks.sown(1, 5, "##111");
        C.due("20: stones ahead", y.last(), 16);
    }

    private static void promise21GoesOn() {
        CornWay x = new CornWay();
        int[] counts = {1, 2, 4, 8};
        for (int k = 0; k < counts.length; k++) {
            C.due("21: goesOn(" + k + ")", x.goesOn(k), counts[k]);
        }
        C.due("21: goesOn(8)", x.goesOn(8), 8);
        C.due("21: goesOn(9)", x.goesOn(9), 0);
        C.due("21: goesOn(12)", x.goesOn(12), 0);
        C.due("21: goesOn(13)", x.goesOn(13), CornWay.OUTSIDE);
        C.due("21: goesOn(-1)", x.goesOn(-1), CornWay.OUTSIDE);
        Checks.write(x, "es");
        C.due("21: from the middle e, s, w", x.goesOn(1), 3);
        Checks.write(x, "eessw");
        C.due("21: n or w", x.goesOn(1), 2);
        C.due("21: nw, wn", x.goesOn(2), 2);
        C.due("21: three more both ways", x.goesOn(3), 2);
        Checks.write(x, "n");
        C.due("21: a step can not be", x.goesOn(1), CornWay.STATE);
        C.due("21: outside is ahead of it", x.goesOn(13), CornWay.OUTSIDE);
        Checks.write(x, "e#");
        C.due("21: a fault", x.goesOn(0), CornWay.NO);
    }

    private static void promise22Drawn() {
        CornWay x = new CornWay();
        C.due("22: drawn(5, 0)", x.drawn(5, 0), 9);
        C.due("22: drawn(5, 1)", x.drawn(5, 1), 4);
        C.due("22: drawn(-1, 0)", x.drawn(-1, 0), CornWay.OUTSIDE);
        C.due("22: drawn(10000, 0)", x.drawn(10000, 0), CornWay.OUTSIDE);
        C.due("22: drawn(0, 2)", x.drawn(0, 2), CornWay.OUTSIDE);
        C.due("22: drawn(0, -1)", x.drawn(0, -1), CornWay.OUTSIDE);
        x.field(1, 3);
        x.begin(1);
        C.due("22: x becomes 74, even: e", x.drawn(0, 1), 2);
        C.due("22: x becomes 149, odd: w", x.drawn(1, 1), 0);
        C.due("22: two are cut", x.drawn(1, 0), 2);
        // 75 times 873 and 74 is 65549, 12 of which are left over: even, as 65549 is not.
        C.due("22: what is left over by 65537", x.drawn(873, 1), 2);
        x.field(1, 1);
        C.due("22: blind at once", x.drawn(9999, 0), 1);
        C.due("22: it ends where it begins", x.drawn(9999, 1), 0);
        x.field(4, 4);
        for (int seed = 0; seed < 10000; seed += 397) {
            PlainRun plain = new PlainRun(4, 4, "1111111111111111", 0);
            C.due("22: drawn(" + seed + ", 0)", x.drawn(seed, 0), plain.drawn(seed, 0));
            C.due("22: drawn(" + seed + ", 1)", x.drawn(seed, 1), plain.drawn(seed, 1));
        }
    }

    private static void promise23And24Images() {
        CornWay x = Checks.sown(2, 3, "35#094");
        x.begin(4);
        x.spill(7);
        C.due("24: restore(0), not kept", x.restore(0), CornWay.STATE);
        C.due("24: restore(2)", x.restore(2), CornWay.OUTSIDE);
        C.due("24: restore(-1)", x.restore(-1), CornWay.OUTSIDE);
        C.due("23: image(2)", x.image(2), CornWay.OUTSIDE);
        C.due("23: image(-1)", x.image(-1), CornWay.OUTSIDE);
        C.due("23: image(1)", x.image(1), 1);
        C.due("24: restore(0), still not kept", x.restore(0), CornWay.STATE);
        x.say('n');
        x.field(4, 4);
        x.begin(9);
        x.spill(1);
        C.due("23: image(0)", x.image(0), 1);
        x.say('w');
        C.due("24: restore(1)", x.restore(1), 1);
        int[] told = {2, 2, 3, 5, 4, 7};
        int[] ears = {3, 5, -6, 0, 9, 4, -1};
        lookAt(x, told, ears, "24: behind restore(1)");
        C.due("24: steps are those of that field", x.way(0), 0);
        x.wipe();
        x.spill(0);
        C.due("24: restore(0)", x.restore(0), 1);
        lookAt(x, new int[] {0, 4, 4, 16, 9, 1}, new int[] {1, 1, 1, 1, 1, 1, 1}, "24: behind restore(0)");
        C.due("24: restore(1) again", x.restore(1), 1);
        told[0] = 0;
        lookAt(x, told, ears, "24: it is kept on");
        x.begin(5);
        C.due("23: image(1) anew", x.image(1), 1);
        x.begin(0);
        x.restore(1);
        C.due("24: the newer one is kept", x.told(4), 5);
        x.field(5, 3);
        x.restore(0);
        x.begin(0);
        C.due("24: steps lead as they led", x.all(-1), 52);
    }

    private static void lookAt(CornWay x, int[] told, int[] ears, String when) {
        for (int what = 0; what < told.length; what++) {
            C.due(when + ": told(" + what + ")", x.told(what), told[what]);
        }
        for (int place = 0; place < ears.length; place++) {
            C.due(when + ": ears(" + place + ")", x.ears(place), ears[place]);
        }
    }

    private static void promise25Told() {
        CornWay x = Checks.sown(3, 4, "##0123456789");
        x.spill(8);
        x.say('q');
        int[] told = {1, 3, 4, 10, 2, 8};
        for (int what = 0; what < told.length; what++) {
            C.due("25: told(" + what + ")", x.told(what), told[what]);
        }
        C.due("25: told(6)", x.told(6), CornWay.OUTSIDE);
        C.due("25: told(-1)", x.told(-1), CornWay.OUTSIDE);
        C.due("25: told(MAX)", x.told(Integer.MAX_VALUE), CornWay.OUTSIDE);
    }

    /** A FIELD of PlainCorn's, with a BEGINNING. */
    private static final class PlainRun {
        private final PlainCorn plain = new PlainCorn();

        PlainRun(int rows, int columns, String text, int beginning) {
            plain.field(rows, columns);
            for (char sign : text.toCharArray()) {
                plain.say(sign);
            }
            plain.sow();
            plain.begin(beginning);
        }

        int two() {
            return plain.two();
        }

        int game() {
            return plain.game();
        }

        int drawn(int seed, int what) {
            return plain.drawn(seed, what);
        }
    }
}
