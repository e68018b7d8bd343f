/**
 * Every FIELD of up to nine PLACES, with every choice of stones and every BEGINNING: what is
 * searched for (promises 12 to 14 and 17 to 20) must be what PlainCorn finds. Runs that are drawn
 * may miss a shape; these miss none. EARS and SPILL change from one to the next for promise 15.
 */
public final class EverySmallFieldTest {
    private static final Checks C = new Checks("EverySmallFieldTest");
    private static final int MOST_PLACES = 9;

    public static void main(String[] args) {
        for (int rows = 1; rows <= 5; rows++) {
            for (int columns = 1; columns <= 5 && rows * columns <= MOST_PLACES; columns++) {
                everyChoiceOfStones(rows, columns);
            }
        }
        C.end();
    }

    private static void everyChoiceOfStones(int rows, int columns) {
        int places = rows * columns;
        // The choice of stones alone can not be sown: it is the one left out.
        for (int stones = 0; stones < (1 << places) - 1; stones++) {
            String text = fieldText(places, stones);
            CornWay real = Checks.sown(rows, columns, text);
            PlainCorn plain = new PlainCorn();
            plain.field(rows, columns);
            for (int i = 0; i < places; i++) {
                plain.say(text.charAt(i));
            }
            plain.sow();
            for (int place = 0; place < places; place++) {
                String name = rows + " by " + columns + " " + text + " from " + place + ": ";
                int was = plain.begin(place);
                C.due(name + "begin", real.begin(place), was);
                if (was >= 0) {
                    real.spill((stones + place) % 10);
                    plain.spill((stones + place) % 10);
                    compare(name, real, plain);
                }
            }
        }
    }

    private static String fieldText(int places, int stones) {
        StringBuilder text = new StringBuilder();
        for (int place = 0; place < places; place++) {
            boolean stone = (stones >> place & 1) == 1;
            text.append(stone ? '#' : (char) ('0' + (stones * 3 + place * 7) % 10));
        }
        return text.toString();
    }

    private static void compare(String name, CornWay real, PlainCorn plain) {
        C.due(name + "bound", real.bound(), plain.bound());
        C.due(name + "two", real.two(), plain.two());
        C.due(name + "game", real.game(), plain.game());
        C.due(name + "where(0)", real.where(0), plain.where(0));
        C.due(name + "where(1)", real.where(1), plain.where(1));
        C.due(name + "last", real.last(), plain.last());
        C.due(name + "all(-1)", real.all(-1), plain.all(-1));
        for (int i = -1; i < MOST_PLACES; i++) {
            C.due(name + "longest(" + i + ")", real.longest(i), plain.longest(i));
            C.due(name + "best(" + i + ")", real.best(i), plain.best(i));
        }
    }
}
