/** What every test here shares: answers that are due, and the end of a test. */
final class Checks {
    private final String test;
    private int looked;
    private int wrong;

    Checks(String test) {
        this.test = test;
    }

    void due(String call, long got, long want) {
        looked++;
        if (got != want) {
            wrong++;
            System.out.println(test + ": " + call + " answered " + got + ", due is " + want);
        }
    }

    void holds(String what, boolean does) {
        looked++;
        if (!does) {
            wrong++;
            System.out.println(test + ": " + what + " does not hold");
        }
    }

    int wrong() {
        return wrong;
    }

    void end() {
        System.out.println(test + ": " + looked + " looked at, " + wrong + " wrong");
        if (wrong != 0 || looked == 0) {
            System.exit(1);
        }
    }

    /** Writes a text on the PAD in the place of what stood there. */
    static void write(CornWay x, String text) {
        x.wipe();
        for (int i = 0; i < text.length(); i++) {
            x.say(text.charAt(i));
        }
    }

    static CornWay sown(int rows, int columns, String text) {
        CornWay x = new CornWay();
        x.field(rows, columns);
        write(x, text);
        x.sow();
        return x;
    }

    /** The STEPS that longest or best answer one by one, as a text. */
    static String steps(java.util.function.IntUnaryOperator call) {
        StringBuilder text = new StringBuilder();
        for (int i = 0; i < 20 && call.applyAsInt(i) != CornWay.NONE; i++) {
            text.append((char) call.applyAsInt(i));
        }
        return text.toString();
    }
}
