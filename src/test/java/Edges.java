import java.util.function.Supplier;

/**
 * What the tests of boundary cases share. Every call is made on an object of its own, so that
 * no case leans on the one before; behind a refused one all that can be seen is looked at.
 */
final class Edges {
    interface Call {
        int on(CornWay x);
    }

    interface CallOf {
        int on(CornWay x, int number);
    }

    static final int MIN = Integer.MIN_VALUE;
    static final int MAX = Integer.MAX_VALUE;
    private static final int LEAST_REFUSAL = CornWay.NO;
    private static final int MOST_REFUSAL = CornWay.UNKNOWN;

    private final Checks checks;

    Edges(Checks checks) {
        this.checks = checks;
    }

    void answers(String sentence, Supplier<CornWay> made, Call call, int due) {
        checks.due(sentence, call.on(made.get()), due);
    }

    /** It answers so, once and again, and behind it nothing has changed. */
    void refuses(String sentence, Supplier<CornWay> made, Call call, int due) {
        CornWay x = made.get();
        checks.due(sentence, call.on(x), due);
        checks.due(sentence + ", again", call.on(x), due);
        same(sentence + ", then", allSeen(x), allSeen(made.get()));
    }

    /** The least and the greatest number are taken; those beside them, and the ends of int, are not. */
    void takes(String sentence, Supplier<CornWay> made, CallOf call, int least, int most, int refusal) {
        for (int number : new int[] {least, most}) {
            int answer = call.on(made.get(), number);
            checks.holds(sentence + ": " + number + " is taken (" + answer + ")",
                answer < LEAST_REFUSAL || answer > MOST_REFUSAL);
        }
        // Those behind a power of two would be taken if a number were cut to fewer bits.
        int[] others = {
            least - 1, most + 1, MIN, MIN + 1, MAX, MAX - 1, MIN + least, MIN + most,
            least + 32, most + 256, least + 65536, most + 65536, most - 256, most - 65536
        };
        for (int number : others) {
            if (number < least || number > most) {
                refuses(sentence + ": " + number, made, x -> call.on(x, number), refusal);
            }
        }
    }

    private void same(String what, String got, String want) {
        checks.holds(what + " it is as it was:\n  " + got + "\n  " + want + "\n ", got.equals(want));
    }

    /** All that can be seen of an object, the IMAGES too. It is used up by it: the PAD and the FIELD are others then. */
    static String allSeen(CornWay x) {
        StringBuilder seen = new StringBuilder();
        lookAtField(x, seen);
        lookAtPad(x, seen);
        lookAtWays(x, seen);
        // What stands on the PAD can be seen only as the FIELD that it becomes.
        seen.append(" sow ").append(x.sow());
        lookAtField(x, seen);
        for (int n = 0; n < 2; n++) {
            seen.append(" restore ").append(x.restore(n));
            lookAtField(x, seen);
        }
        seen.append(" wipe ").append(x.wipe());
        lookAtPad(x, seen);
        return seen.toString();
    }

    private static void lookAtField(CornWay x, StringBuilder seen) {
        look(seen, " told", 0, 5, x::told);
        look(seen, " ears", 0, 16, x::ears);
    }

    private static void lookAtPad(CornWay x, StringBuilder seen) {
        look(seen, " fault", 0, 1, x::fault);
        look(seen, " judge", 0, 1, x::judge);
        look(seen, " way", 0, 6, x::way);
        look(seen, " storm", 0, 1, what -> x.storm(3, what));
        look(seen, " goesOn", 0, 2, x::goesOn);
    }

    private static void lookAtWays(CornWay x, StringBuilder seen) {
        look(seen, " longest", -1, 15, x::longest);
        look(seen, " all", -1, 16, x::all);
        look(seen, " best", -1, 15, x::best);
        look(seen, " where", 0, 1, x::where);
        look(seen, " drawn", 0, 1, what -> x.drawn(4711, what));
        seen.append(" bound ").append(x.bound()).append(" last ").append(x.last());
        seen.append(" two ").append(x.two()).append(" game ").append(x.game());
    }

    private static void look(StringBuilder seen, String name, int first, int last,
            java.util.function.IntUnaryOperator call) {
        seen.append(name);
        for (int number = first; number <= last; number++) {
            seen.append(' ').append(call.applyAsInt(number));
        }
    }
}
