/** Promises 1 to 9: fields. */
public final class FieldsTest {
    private static final Checks C = new Checks("FieldsTest");

    public static void main(String[] args) {
        promise1NewObject();
        promise2Field();
        promise3Say();
        promise4Wipe();
        promise5FaultOfAField();
        promise5FaultOfAWay();
        promise6Sow();
        promise6SowRefused();
        promise7Ears();
        promise8Begin();
        promise9Spill();
        C.end();
    }

    private static void promise1NewObject() {
        CornWay x = new CornWay();
        int[] told = {0, 3, 3, 9, 0, 0};
        for (int what = 0; what < told.length; what++) {
            C.due("1: told(" + what + ")", x.told(what), told[what]);
        }
        for (int place = 0; place < 9; place++) {
            C.due("1: ears(" + place + ")", x.ears(place), 1);
        }
        C.due("1: ears(9)", x.ears(9), CornWay.UNKNOWN);
        C.due("1: restore(0)", x.restore(0), CornWay.STATE);
        C.due("1: restore(1)", x.restore(1), CornWay.STATE);
    }

    private static void promise2Field() {
        for (int rows = -1; rows <= 7; rows++) {
            for (int columns = -1; columns <= 7; columns++) {
                boolean can = rows >= 1 && rows <= 5 && columns >= 1 && columns <= 5 && rows * columns <= 16;
                CornWay x = new CornWay();
                String call = "2: field(" + rows + ", " + columns + ")";
                C.due(call, x.field(rows, columns), can ? rows * columns : CornWay.OUTSIDE);
                C.due(call + ", then rows", x.told(1), can ? rows : 3);
                C.due(call + ", then columns", x.told(2), can ? columns : 3);
            }
        }
        CornWay x = Checks.sown(2, 3, "35#094");
        x.begin(4);
        x.spill(3);
        x.say('n');
        C.due("2: field(65537, 65537)", x.field(65537, 65537), CornWay.OUTSIDE);
        C.due("2: field(MIN, 1)", x.field(Integer.MIN_VALUE, 1), CornWay.OUTSIDE);
        C.due("2: what is refused leaves the beginning", x.told(4), 4);
        C.due("2: and stones", x.ears(2), CornWay.NONE);
        C.due("2: field(2, 3)", x.field(2, 3), 6);
        C.due("2: the beginning then", x.told(4), 0);
        C.due("2: no stones then", x.told(3), 6);
        for (int place = 0; place < 6; place++) {
            C.due("2: ears(" + place + ")", x.ears(place), 1);
        }
        C.due("2: the pad stays", x.told(0), 1);
        C.due("2: spill stays", x.told(5), 3);
    }

    private static void promise3Say() {
        CornWay x = new CornWay();
        C.due("3: say(32)", x.say(32), CornWay.OUTSIDE);
        C.due("3: say(127)", x.say(127), CornWay.OUTSIDE);
        C.due("3: say(-1)", x.say(-1), CornWay.OUTSIDE);
        C.due("3: say(MAX)", x.say(Integer.MAX_VALUE), CornWay.OUTSIDE);
        C.due("3: say(65536 and 'n')", x.say(65536 + 'n'), CornWay.OUTSIDE);
        C.due("3: nothing is said", x.told(0), 0);
        C.due("3: say(33)", x.say(33), 1);
        C.due("3: say(126)", x.say(126), 2);
        for (int n = 3; n <= 40; n++) {
            C.due("3: say, the sign " + n, x.say('e'), n);
        }
        C.due("3: one more", x.say('e'), CornWay.FULL);
        C.due("3: one more out of range", x.say(32), CornWay.OUTSIDE);
        C.due("3: still 40", x.told(0), 40);
    }

    private static void promise4Wipe() {
        CornWay x = new CornWay();
        C.due("4: wipe() of nothing", x.wipe(), 0);
        x.say('x');
        x.say('y');
        C.due("4: fault ahead of wipe", x.fault(1), 0);
        C.due("4: wipe()", x.wipe(), 2);
        C.due("4: told(0)", x.told(0), 0);
        C.due("4: nothing of it is left", x.fault(1), CornWay.NONE);
        C.due("4: wipe() again", x.wipe(), 0);
        C.due("4: say", x.say('n'), 1);
    }

    private static void promise5FaultOfAField() {
        CornWay x = new CornWay();
        x.field(2, 2);
        String[] texts = {"", "1", "#09", "1234", "####", "12345", "1n", "n", "12x4", "1234x", "/234", ":234", "12 4"};
        int[] faults = {0, 1, 3, -6, -6, 4, 1, 0, 2, 4, 0, 0, 3};
        for (int i = 0; i < texts.length; i++) {
            Checks.write(x, texts[i]);
            C.due("5: fault(0) of " + texts[i], x.fault(0), faults[i]);
        }
        C.due("5: fault(2)", x.fault(2), CornWay.OUTSIDE);
        C.due("5: fault(-1)", x.fault(-1), CornWay.OUTSIDE);
        x.field(1, 3);
        Checks.write(x, "1234");
        C.due("5: fault(0) goes by the field", x.fault(0), 3);
        x.field(4, 4);
        C.due("5: fault(0), more must come", x.fault(0), 4);
    }

    private static void promise5FaultOfAWay() {
        CornWay x = new CornWay();
        String[] texts = {"", "nesw", "neswx", "N", "n1", "#", "nnnnnnnnnnnnnnnnnnnnnnnnnnnnnnnnnnnnnnnn"};
        int[] faults = {-6, -6, 4, 0, 1, 0, -6};
        for (int i = 0; i < texts.length; i++) {
            Checks.write(x, texts[i]);
            C.due("5: fault(1) of " + texts[i], x.fault(1), faults[i]);
        }
        C.due("5: 40 signs stand", x.told(0), 40);
    }

    private static void promise6Sow() {
        CornWay x = new CornWay();
        x.field(2, 3);
        x.begin(5);
        x.spill(2);
        Checks.write(x, "##7#09");
        C.due("6: sow()", x.sow(), 3);
        C.due("6: the pad is empty", x.told(0), 0);
        C.due("6: the beginning", x.told(4), 2);
        C.due("6: spill stays", x.told(5), 2);
        C.due("6: rows", x.told(1), 2);
        C.due("6: columns", x.told(2), 3);
        int[] ears = {-6, -6, 7, -6, 0, 9};
        for (int place = 0; place < ears.length; place++) {
            C.due("6: ears(" + place + ")", x.ears(place), ears[place]);
        }
        Checks.write(x, "4#####");
        C.due("6: sow() again, one ahead of stones", x.sow(), 1);
        Checks.write(x, "#####4");
        C.due("6: one behind stones", x.sow(), 1);
        C.due("6: it begins there", x.told(4), 5);
        Checks.write(x, "111111");
        C.due("6: sow() again, over stones", x.sow(), 6);
        C.due("6: the beginning is the first", x.told(4), 0);
    }

    private static void promise6SowRefused() {
        CornWay x = Checks.sown(1, 3, "5#6");
        x.begin(2);
        C.due("6: sow() of nothing", x.sow(), CornWay.NO);
        Checks.write(x, "##");
        C.due("6: too few stones", x.sow(), CornWay.NO);
        Checks.write(x, "####");
        C.due("6: too many stones", x.sow(), CornWay.NO);
        Checks.write(x, "1x3");
        C.due("6: a sign that can not stand", x.sow(), CornWay.NO);
        C.due("6: the pad stays", x.told(0), 3);
        Checks.write(x, "###7");
        Checks.write(x, "###");
        C.due("6: all are stones", x.sow(), CornWay.STATE);
        C.due("6: the pad stays then too", x.told(0), 3);
        C.due("6: the beginning stays", x.told(4), 2);
        C.due("6: ears stay", x.ears(0), 5);
        C.due("6: stones stay", x.ears(1), CornWay.NONE);
    }

    private static void promise7Ears() {
        CornWay x = Checks.sown(2, 2, "0#93");
        C.due("7: ears(0)", x.ears(0), 0);
        C.due("7: ears(1)", x.ears(1), CornWay.NONE);
        C.due("7: ears(2)", x.ears(2), 9);
        C.due("7: ears(3)", x.ears(3), 3);
        C.due("7: ears(4)", x.ears(4), CornWay.UNKNOWN);
        C.due("7: ears(-1)", x.ears(-1), CornWay.UNKNOWN);
        C.due("7: ears(MIN)", x.ears(Integer.MIN_VALUE), CornWay.UNKNOWN);
        C.due("7: ears(MAX)", x.ears(Integer.MAX_VALUE), CornWay.UNKNOWN);
        x.field(4, 4);
        C.due("7: ears(15)", x.ears(15), 1);
        C.due("7: ears(16)", x.ears(16), CornWay.UNKNOWN);
    }

    private static void promise8Begin() {
        CornWay x = Checks.sown(2, 2, "0#93");
        C.due("8: begin(3)", x.begin(3), 0);
        C.due("8: begin(2)", x.begin(2), 3);
        C.due("8: begin(1)", x.begin(1), CornWay.STATE);
        C.due("8: begin(4)", x.begin(4), CornWay.UNKNOWN);
        C.due("8: begin(-1)", x.begin(-1), CornWay.UNKNOWN);
        C.due("8: begin(MAX)", x.begin(Integer.MAX_VALUE), CornWay.UNKNOWN);
        C.due("8: what is refused changes nothing", x.told(4), 2);
        C.due("8: a way begins there", x.way(0), 2);
        C.due("8: begin(2) where it is", x.begin(2), 2);
    }

    private static void promise9Spill() {
        CornWay x = new CornWay();
        C.due("9: spill(9)", x.spill(9), 0);
        C.due("9: spill(10)", x.spill(10), CornWay.OUTSIDE);
        C.due("9: spill(-1)", x.spill(-1), CornWay.OUTSIDE);
        C.due("9: spill(1)", x.spill(1), 9);
        C.due("9: spill(0)", x.spill(0), 1);
        C.due("9: told(5)", x.told(5), 0);
    }
}
