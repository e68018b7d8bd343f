import java.util.Random;

/** Long runs of calls: every answer, and the state at the end, must also be PlainCorn's. */
public final class AgainstPlainTest {
    private static final int RUNS = Integer.getInteger("runs", 120);
    private static final int CALLS = 512;
    private static final int[] ODD_NUMBERS = {
        Integer.MIN_VALUE, Integer.MIN_VALUE + 1, -65536, -7, -3, -2, -1, 40, 41, 126, 127, 10000, 65537,
        Integer.MAX_VALUE - 1, Integer.MAX_VALUE
    };
    private static final String[] NAMES = {
        "field", "say", "wipe", "fault", "sow", "ears", "begin", "spill", "judge", "way", "longest", "all", "bound",
        "best", "storm", "two", "game", "where", "last", "goesOn", "drawn", "image", "restore", "told"
    };
    private static final Checks CHECKS = new Checks("AgainstPlainTest");

    private final Random draws;
    private final CornWay real = new CornWay();
    private final PlainCorn plain = new PlainCorn();
    private int calls = 0;
    private final int run;

    private AgainstPlainTest(int run) {
        this.run = run;
        this.draws = new Random(run);
    }

    public static void main(String[] args) {
        for (int run = 0; run < RUNS && CHECKS.wrong() < 20; run++) {
            new AgainstPlainTest(run).go();
        }
        CHECKS.end();
    }

    private void go() {
        while (calls < CALLS && CHECKS.wrong() < 20) {
            int kind = draws.nextInt(100);
            if (kind < 3) {
                call(0, 1 + draws.nextInt(5), 1 + draws.nextInt(5));
            } else if (kind < 6) {
                call(0, 3 + draws.nextInt(2), 3 + draws.nextInt(3));
            } else if (kind < 16) {
                sowSomething();
            } else if (kind < 30) {
                tellAWay();
            } else {
                call(draws.nextInt(NAMES.length), number(), number());
            }
        }
        lookAtState();
    }

    /** Mostly small numbers, since these are the ones that mean something. */
    private int number() {
        int kind = draws.nextInt(20);
        if (kind == 0) {
            return ODD_NUMBERS[draws.nextInt(ODD_NUMBERS.length)];
        }
        if (kind == 1) {
            return draws.nextInt(10100) - 50;
        }
        return kind < 8 ? draws.nextInt(3) - 1 : draws.nextInt(24) - 2;
    }

    private void write(String text) {
        call(2, 0, 0);
        for (int i = 0; i < text.length(); i++) {
            call(1, text.charAt(i), 0);
        }
    }

    private void sowSomething() {
        int places = plain.told(1) * plain.told(2);
        int stones = draws.nextInt(8);
        StringBuilder text = new StringBuilder();
        for (int p = 0; p < places; p++) {
            text.append(draws.nextInt(10) < stones ? '#' : (char) ('0' + draws.nextInt(10)));
        }
        if (draws.nextInt(12) == 0) {
            text.setCharAt(draws.nextInt(places), 'n');
        }
        if (draws.nextInt(12) == 0) {
            text.append('5');
        }
        write(text.toString());
        call(3, 0, 0);
        call(4, 0, 0);
    }

    /** A text of STEPS, most of which can be, so that long ones come to stand on the PAD too. */
    private void tellAWay() {
        int most = draws.nextInt(14);
        call(2, 0, 0);
        for (int i = 0; i < most; i++) {
            char step = "nesw".charAt(draws.nextInt(4));
            for (int tries = 0; tries < 5 && !plain.canGo(step); tries++) {
                step = "nesw".charAt(draws.nextInt(4));
            }
            call(1, step, 0);
        }
        if (draws.nextInt(15) == 0) {
            call(1, 'x', 0);
        }
    }

    private void call(int which, int a, int b) {
        if (calls >= CALLS) {
            return;
        }
        calls++;
        String name = "run " + run + " call " + calls + ": " + NAMES[which] + "(" + a + ", " + b + ")";
        CHECKS.due(name, answer(which, a, b), plainAnswer(which, a, b));
    }

    private void lookAtState() {
        for (int what = 0; what < 6; what++) {
            CHECKS.due("run " + run + ": told(" + what + ") at the end", real.told(what), plain.told(what));
        }
        for (int place = 0; place < 16; place++) {
            CHECKS.due("run " + run + ": ears(" + place + ") at the end", real.ears(place), plain.ears(place));
        }
    }

    private int answer(int which, int a, int b) {
        switch (which) {
            case 0: return real.field(a, b);
            case 1: return real.say(a);
            case 2: return real.wipe();
            case 3: return real.fault(a);
            case 4: return real.sow();
            case 5: return real.ears(a);
            case 6: return real.begin(a);
            case 7: return real.spill(a);
            case 8: return real.judge(a);
            case 9: return real.way(a);
            case 10: return real.longest(a);
            case 11: return real.all(a);
            case 12: return real.bound();
            case 13: return real.best(a);
            case 14: return real.storm(a, b);
            case 15: return real.two();
            case 16: return real.game();
            case 17: return real.where(a);
            case 18: return real.last();
            case 19: return real.goesOn(a);
            case 20: return real.drawn(a, b);
            case 21: return real.image(a);
            case 22: return real.restore(a);
            default: return real.told(a);
        }
    }

    private int plainAnswer(int which, int a, int b) {
        switch (which) {
            case 0: return plain.field(a, b);
            case 1: return plain.say(a);
            case 2: return plain.wipe();
            case 3: return plain.fault(a);
            case 4: return plain.sow();
            case 5: return plain.ears(a);
            case 6: return plain.begin(a);
            case 7: return plain.spill(a);
            case 8: return plain.judge(a);
            case 9: return plain.way(a);
            case 10: return plain.longest(a);
            case 11: return plain.all(a);
            case 12: return plain.bound();
            case 13: return plain.best(a);
            case 14: return plain.storm(a, b);
            case 15: return plain.two();
            case 16: return plain.game();
            case 17: return plain.where(a);
            case 18: return plain.last();
            case 19: return plain.goesOn(a);
            case 20: return plain.drawn(a, b);
            case 21: return plain.image(a);
            case 22: return plain.restore(a);
            default: return plain.told(a);
        }
    }
}
