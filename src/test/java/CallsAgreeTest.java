import java.util.Random;

/**
 * What several calls tell of one FIELD must agree, on drawn FIELDS of up to 16 PLACES. No model
 * stands behind it: a WAY that is answered is written on the PAD, and the calls of promises 10
 * and 11 say what it is worth. A new object for each BEGINNING keeps below the 512 calls.
 */
public final class CallsAgreeTest {
    private static final Checks C = new Checks("CallsAgreeTest");
    private static final int FIELDS = 250;
    private static final int[][] SIDES = {{4, 4}, {3, 5}, {5, 3}, {3, 4}, {4, 3}, {5, 2}, {1, 5}};

    public static void main(String[] args) {
        Random draws = new Random(1811);
        for (int n = 0; n < FIELDS; n++) {
            int[] side = SIDES[n % SIDES.length];
            String text = fieldText(draws, side[0] * side[1]);
            int spill = draws.nextInt(4);
            for (int place = 0; place < text.length(); place++) {
                CornWay x = Checks.sown(side[0], side[1], text);
                x.spill(spill);
                if (x.begin(place) >= 0) {
                    agree(text + " of " + side[0] + " rows from " + place + ", spill " + spill + ": ", x, draws);
                }
            }
        }
        C.end();
    }

    private static void agree(String name, CornWay x, Random draws) {
        longestCanBeGone(name, x);
        bestIsAStormWithoutEnd(name, x);
        endsOfAllAddUp(name, x);
        boundHolds(name, x);
        aStormAfterAStep(name, x);
        waysOnAddUp(name, x);
        drawnIsNoLonger(name, x, draws.nextInt(10000));
        twoStayWithinTheirField(name, x);
        whereIsLongestFromThere(name, x);
    }

    /** Promise 12: LONGEST is a WAY that can be, is as long as it says, and can not go on. */
    private static void longestCanBeGone(String name, CornWay x) {
        Checks.write(x, Checks.steps(x::longest));
        C.due(name + "longest's steps can be", x.judge(0), CornWay.NONE);
        C.due(name + "places that they cut", x.way(1), x.longest(-1));
        C.due(name + "they are blind", x.way(4), 1);
        x.wipe();
        C.holds(name + "there are ways of as many steps", x.longest(-1) > 13 || x.goesOn(x.longest(-1) - 1) > 0);
        C.holds(name + "there are none of more", x.longest(-1) > 12 || x.goesOn(x.longest(-1)) == 0);
    }

    /** Promises 15 and 16: from no STEPS a STORM that leaves time for all is BEST, with less time it is worth less. */
    private static void bestIsAStormWithoutEnd(String name, CornWay x) {
        String way = Checks.steps(x::best);
        Checks.write(x, way);
        C.due(name + "best's steps can be", x.judge(0), CornWay.NONE);
        C.due(name + "what they bring", x.way(5), x.best(-1));
        x.wipe();
        C.due(name + "storm(20, 0)", x.storm(20, 0), x.best(-1));
        C.due(name + "storm(20, 1)", x.storm(20, 1), x.best(0));
        C.due(name + "just time enough", x.storm(way.length(), 0), x.best(-1));
        C.holds(name + "a step too few", way.isEmpty() || x.storm(way.length() - 1, 0) < x.best(-1));
    }

    /** Promises 13 and 20. */
    private static void endsOfAllAddUp(String name, CornWay x) {
        int sum = 0;
        int bits = 0;
        for (int place = 0; place < x.told(1) * x.told(2); place++) {
            int ending = x.all(place);
            sum += ending;
            bits |= ending > 0 ? 1 << place : 0;
        }
        C.due(name + "all(-1)", x.all(-1), sum);
        C.due(name + "last()", x.last(), bits);
        C.holds(name + "some way cuts all if longest does", sum > 0 == (x.longest(-1) == x.told(3)));
    }

    /** Promise 14: no WAY can cut more, so that none cuts all where BOUND is less than all. */
    private static void boundHolds(String name, CornWay x) {
        C.holds(name + "longest is no more than bound", x.longest(-1) <= x.bound());
        C.holds(name + "no way cuts all where bound is less", x.bound() >= x.told(3) || x.all(-1) == 0);
    }

    /** Promise 16: the most of what the next STEPS leave, or of staying, is what is told ahead of them. */
    private static void aStormAfterAStep(String name, CornWay x) {
        x.wipe();
        int ahead = x.storm(6, 0);
        int most = x.storm(0, 0);
        for (char step : "nesw".toCharArray()) {
            Checks.write(x, String.valueOf(step));
            most = Math.max(most, x.storm(5, 0));
        }
        C.due(name + "storm(6, 0)", ahead, most);
        x.wipe();
    }

    /** Promise 21: ways on of k STEPS are those of k - 1 behind each next STEP. */
    private static void waysOnAddUp(String name, CornWay x) {
        for (int k = 1; k <= 12; k++) {
            x.wipe();
            int ahead = x.goesOn(k);
            int sum = 0;
            for (char step : "nesw".toCharArray()) {
                Checks.write(x, String.valueOf(step));
                sum += x.judge(0) == CornWay.NONE ? x.goesOn(k - 1) : 0;
            }
            C.due(name + "goesOn(" + k + ")", ahead, sum);
        }
        x.wipe();
    }

    private static void drawnIsNoLonger(String name, CornWay x, int seed) {
        int cut = x.drawn(seed, 0);
        C.holds(name + "drawn(" + seed + ", 0) is no more than longest", cut >= 1 && cut <= x.longest(-1));
        C.holds(name + "drawn(" + seed + ", 1) is no stone", x.ears(x.drawn(seed, 1)) >= 0);
    }

    /** Promises 17 and 18: none of the two cuts what can not be come to, and one alone stays within LONGEST. */
    private static void twoStayWithinTheirField(String name, CornWay x) {
        if (x.told(3) > 12) {
            C.due(name + "two()", x.two(), CornWay.FULL);
            C.due(name + "game()", x.game(), CornWay.FULL);
            return;
        }
        int locked = Integer.bitCount(x.way(3));
        C.holds(name + "two() leaves what is locked", x.two() >= 1 && x.two() <= x.told(3) - locked);
        int lead = x.game() - 1000;
        C.holds(name + "game() is within what can be cut", Math.abs(lead) < x.longest(-1));
        C.holds(name + "game() is 0 where nobody can go", x.way(4) == 0 || lead == 0);
        // In a dead end the second one is BLIND as soon as the first one has gone.
        C.holds(name + "game() of one way on", x.goesOn(1) != 1 || lead >= 1);
    }

    /** Promise 19. */
    private static void whereIsLongestFromThere(String name, CornWay x) {
        int place = x.where(0);
        int most = x.where(1);
        C.holds(name + "where(1) is no less than longest", most >= x.longest(-1));
        int was = x.begin(place);
        C.due(name + "longest from where(0)", x.longest(-1), most);
        for (int before = 0; before < place; before++) {
            C.holds(name + "it is the first", x.begin(before) < 0 || x.longest(-1) < most);
        }
        x.begin(was);
    }

    private static String fieldText(Random draws, int places) {
        int stones = draws.nextInt(5);
        StringBuilder text = new StringBuilder();
        for (int place = 0; place < places; place++) {
            text.append(draws.nextInt(12) < stones ? '#' : (char) ('0' + draws.nextInt(10)));
        }
        // A FIELD of stones alone could not be sown.
        text.setCharAt(draws.nextInt(places), '7');
        return text.toString();
    }
}
