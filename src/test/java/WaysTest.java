/** Promises 10 and 11: ways. */
public final class WaysTest {
    private static final Checks C = new Checks("WaysTest");

    public static void main(String[] args) {
        promise10Judge();
        promise10JudgeRefused();
        promise11Way();
        promise11Locked();
        promise11Blind();
        promise11Brought();
        promise11WayRefused();
        C.end();
    }

    private static void promise10Judge() {
        CornWay x = Checks.sown(2, 3, "35#094");
        String[] texts = {"", "n", "w", "e", "ee", "es", "esw", "eswn", "ew", "ess", "esee", "sss", "nx"};
        int[] steps = {-6, 0, 0, -6, 1, -6, -6, 3, 1, 2, 3, 1, -5};
        int[] whys = {-6, 1, 1, -6, 2, -6, -6, 3, 3, 1, 1, 1, -5};
        for (int i = 0; i < texts.length; i++) {
            Checks.write(x, texts[i]);
            C.due("10: judge(0) of " + texts[i], x.judge(0), steps[i]);
            C.due("10: judge(1) of " + texts[i], x.judge(1), whys[i]);
        }
        x.begin(5);
        Checks.write(x, "n");
        C.due("10: north of 5 is a stone", x.judge(1), 2);
        Checks.write(x, "e");
        C.due("10: east of 5 is beyond, not the next row", x.judge(1), 1);
        x.begin(3);
        Checks.write(x, "w");
        C.due("10: west of 3 is beyond", x.judge(1), 1);
    }

    private static void promise10JudgeRefused() {
        CornWay x = new CornWay();
        C.due("10: judge(2)", x.judge(2), CornWay.OUTSIDE);
        C.due("10: judge(-1)", x.judge(-1), CornWay.OUTSIDE);
        Checks.write(x, "e1");
        C.due("10: judge(0) with a fault", x.judge(0), CornWay.NO);
        C.due("10: judge(1) with a fault", x.judge(1), CornWay.NO);
        C.due("10: judge(2) with a fault", x.judge(2), CornWay.OUTSIDE);
    }

    private static void promise11Way() {
        CornWay x = Checks.sown(2, 3, "35#094");
        int[] atFirst = {0, 1, 3, 0, 0, 3, 1};
        int[] gone = {3, 4, 17, 32, 1, 17, 27};
        for (int what = 0; what < 7; what++) {
            C.due("11: way(" + what + ") of nothing", x.way(what), atFirst[what]);
        }
        Checks.write(x, "esw");
        for (int what = 0; what < 7; what++) {
            C.due("11: way(" + what + ") of esw", x.way(what), gone[what]);
        }
        x.field(4, 4);
        Checks.write(x, "eeeswwwseeeswww");
        C.due("11: the end of all", x.way(0), 12);
        C.due("11: 16 are cut", x.way(1), 16);
        C.due("11: all bits", x.way(6), 65535);
    }

    private static void promise11Locked() {
        CornWay x = new CornWay();
        x.begin(1);
        Checks.write(x, "s");
        C.due("11: open on both sides round the end", x.way(3), 0);
        Checks.write(x, "ss");
        C.due("11: two columns, both can be come to", x.way(3), 0);
        Checks.write(x, "sse");
        C.due("11: the column behind is locked", x.way(3), 1 + 8 + 64);
        x.begin(0);
        Checks.write(x, "eesswn");
        C.due("11: what can be come to is not locked", x.way(3), 0);
        Checks.write(x, "sseenw");
        C.due("11: nor here", x.way(3), 0);
        CornWay y = Checks.sown(1, 5, "11#11");
        C.due("11: behind a stone it is locked from the first", y.way(3), 8 + 16);
        C.due("11: stones are never locked", y.way(3) & 4, 0);
        Checks.write(y, "e");
        C.due("11: what is cut is not locked", y.way(3), 8 + 16);
    }

    private static void promise11Blind() {
        CornWay x = Checks.sown(2, 2, "1#11");
        C.due("11: it can go on", x.way(4), 0);
        Checks.write(x, "s");
        C.due("11: still", x.way(4), 0);
        Checks.write(x, "se");
        C.due("11: blind before a stone", x.way(4), 1);
        x.field(1, 1);
        x.wipe();
        C.due("11: blind in a field of one", x.way(4), 1);
    }

    private static void promise11Brought() {
        CornWay x = Checks.sown(2, 3, "359480");
        Checks.write(x, "eesww");
        C.due("11: spill 0 brings all ears", x.way(5), 29);
        x.spill(2);
        C.due("11: 3, 3, 5, 0, 0, 0 (none is below 0)", x.way(5), 11);
        x.spill(1);
        C.due("11: 3, 4, 7, 0, 4, 0", x.way(5), 18);
        x.spill(9);
        C.due("11: the beginning never spills", x.way(5), 3);
        C.due("11: ears are as they were", x.way(2), 29);
    }

    private static void promise11WayRefused() {
        CornWay x = new CornWay();
        C.due("11: way(7)", x.way(7), CornWay.OUTSIDE);
        C.due("11: way(-1)", x.way(-1), CornWay.OUTSIDE);
        Checks.write(x, "n");
        C.due("11: way(0), a step can not be", x.way(0), CornWay.STATE);
        C.due("11: way(7) then", x.way(7), CornWay.OUTSIDE);
        Checks.write(x, "ex");
        C.due("11: way(0), a fault", x.way(0), CornWay.NO);
        Checks.write(x, "nx");
        C.due("11: way(0), a fault behind a step that could not be", x.way(0), CornWay.NO);
    }
}
