import java.util.ArrayList;
import java.util.Comparator;
import java.util.HashMap;
import java.util.HashSet;
import java.util.List;
import java.util.Map;
import java.util.Set;

/**
 * The document once more, as slow and as literal as can be: every WAY is a text that is gone
 * through from THE BEGINNING, and "the first" is found by comparing texts. It shares no code
 * and no order of search with CornWay, so that a fault is hardly made in both.
 */
final class PlainCorn {
    static final int UNKNOWN = -1, OUTSIDE = -2, STATE = -3, FULL = -4, NO = -5, NONE = -6;
    private static final String ORDER = "nesw";

    private int rows = 3;
    private int columns = 3;
    private String field = "111111111";
    private int beginning = 0;
    private int spilt = 0;
    private String pad = "";
    private final PlainCorn[] images = new PlainCorn[2];
    private final Map<String, List<String>> known = new HashMap<>();

    int field(int r, int c) {
        if (r < 1 || r > 5 || c < 1 || c > 5 || r * c > 16) {
            return OUTSIDE;
        }
        rows = r;
        columns = c;
        field = "1".repeat(r * c);
        beginning = 0;
        return r * c;
    }

    int say(int sign) {
        if (sign < 33 || sign > 126) {
            return OUTSIDE;
        }
        if (pad.length() == 40) {
            return FULL;
        }
        pad += (char) sign;
        return pad.length();
    }

    int wipe() {
        int n = pad.length();
        pad = "";
        return n;
    }

    int fault(int how) {
        if (how != 0 && how != 1) {
            return OUTSIDE;
        }
        String canStand = how == 0 ? "#0123456789" : ORDER;
        int most = how == 0 ? rows * columns : 40;
        for (int i = 0; i < pad.length(); i++) {
            if (i == most || canStand.indexOf(pad.charAt(i)) < 0) {
                return i;
            }
        }
        return how == 0 && pad.length() < most ? pad.length() : NONE;
    }

    int sow() {
        if (fault(0) != NONE) {
            return NO;
        }
        if (pad.replace("#", "").isEmpty()) {
            return STATE;
        }
        field = pad;
        pad = "";
        beginning = 0;
        while (stone(beginning)) {
            beginning++;
        }
        return openPlaces().size();
    }

    int ears(int place) {
        if (place < 0 || place >= field.length()) {
            return UNKNOWN;
        }
        return stone(place) ? NONE : field.charAt(place) - '0';
    }

    int begin(int place) {
        if (place < 0 || place >= field.length()) {
            return UNKNOWN;
        }
        if (stone(place)) {
            return STATE;
        }
        int was = beginning;
        beginning = place;
        return was;
    }

    int spill(int v) {
        if (v < 0 || v > 9) {
            return OUTSIDE;
        }
        int was = spilt;
        spilt = v;
        return was;
    }

    int judge(int what) {
        if (what != 0 && what != 1) {
            return OUTSIDE;
        }
        if (fault(1) != NONE) {
            return NO;
        }
        for (int i = 0; i < pad.length(); i++) {
            int why = whyNot(placesOf(beginning, pad.substring(0, i)), pad.charAt(i));
            if (why != 0) {
                return what == 0 ? i : why;
            }
        }
        return NONE;
    }

    int way(int what) {
        if (what < 0 || what > 6) {
            return OUTSIDE;
        }
        if (refusal() != 0) {
            return refusal();
        }
        List<Integer> cut = placesOf(beginning, pad);
        int end = cut.get(cut.size() - 1);
        int sum = 0;
        for (int p : cut) {
            sum += ears(p);
        }
        int bits = 0;
        for (int p : cut) {
            bits += 1 << p;
        }
        boolean blind = true;
        for (int i = 0; i < 4; i++) {
            blind &= whyNot(cut, ORDER.charAt(i)) != 0;
        }
        Set<Integer> reached = reached(end, new HashSet<>(cut));
        int locked = 0;
        for (int p : openPlaces()) {
            if (!cut.contains(p) && !reached.contains(p)) {
                locked += 1 << p;
            }
        }
        return new int[] {end, cut.size(), sum, locked, blind ? 1 : 0, brought(beginning, pad), bits}[what];
    }

    int longest(int i) {
        String way = chosen(waysFrom(beginning), Comparator.comparingInt((String w) -> -w.length()));
        return i == -1 ? way.length() + 1 : sign(way, i);
    }

    int all(int place) {
        if (place < -1 || place >= field.length()) {
            return UNKNOWN;
        }
        int n = 0;
        for (String way : waysFrom(beginning)) {
            List<Integer> cut = placesOf(beginning, way);
            if (cut.size() == openPlaces().size() && (place == -1 || cut.get(cut.size() - 1) == place)) {
                n++;
            }
        }
        return n;
    }

    int bound() {
        int b = 0;
        int c = 0;
        Set<Integer> reached = reached(beginning, new HashSet<>());
        reached.add(beginning);
        for (int p : reached) {
            int apart = Math.abs(p / columns - beginning / columns) + Math.abs(p % columns - beginning % columns);
            if (apart % 2 == 0) {
                b++;
            } else {
                c++;
            }
        }
        return b <= c ? 2 * b : 2 * c + 1;
    }

    int best(int i) {
        String way = mostBrought(waysFrom(beginning));
        return i == -1 ? brought(beginning, way) : sign(way, i);
    }

    int storm(int k, int what) {
        if (k < 0 || k > 20 || (what != 0 && what != 1)) {
            return OUTSIDE;
        }
        if (refusal() != 0) {
            return refusal();
        }
        List<String> on = new ArrayList<>();
        for (String way : waysFrom(beginning)) {
            if (way.startsWith(pad) && way.length() <= pad.length() + k) {
                on.add(way);
            }
        }
        String way = mostBrought(on);
        return what == 0 ? brought(beginning, way) : sign(way, pad.length());
    }

    int two() {
        if (openPlaces().size() > 12) {
            return FULL;
        }
        return together(placesOf(beginning, ""), beginning, beginning, false);
    }

    int game() {
        if (openPlaces().size() > 12) {
            return FULL;
        }
        return 1000 + apart(placesOf(beginning, ""), beginning, beginning, 0, 0, true);
    }

    int where(int what) {
        if (what != 0 && what != 1) {
            return OUTSIDE;
        }
        int first = NONE;
        int most = 0;
        for (int p : openPlaces()) {
            for (String way : waysFrom(p)) {
                if (way.length() + 1 > most) {
                    most = way.length() + 1;
                    first = p;
                }
            }
        }
        return what == 0 ? first : most;
    }

    int last() {
        int bits = 0;
        for (int p : openPlaces()) {
            if (all(p) > 0) {
                bits += 1 << p;
            }
        }
        return bits;
    }

    int goesOn(int k) {
        if (k < 0 || k > 12) {
            return OUTSIDE;
        }
        if (refusal() != 0) {
            return refusal();
        }
        int n = 0;
        for (String way : waysFrom(beginning)) {
            if (way.startsWith(pad) && way.length() == pad.length() + k) {
                n++;
            }
        }
        return n;
    }

    int drawn(int seed, int what) {
        if (seed < 0 || seed > 9999 || (what != 0 && what != 1)) {
            return OUTSIDE;
        }
        long x = seed;
        String way = "";
        while (true) {
            List<Integer> cut = placesOf(beginning, way);
            String can = "";
            for (int i = 0; i < 4; i++) {
                can += whyNot(cut, ORDER.charAt(i)) == 0 ? "" + ORDER.charAt(i) : "";
            }
            if (can.isEmpty()) {
                return what == 0 ? cut.size() : cut.get(cut.size() - 1);
            }
            x = (75 * x + 74) % 65537;
            way += can.charAt((int) (x % can.length()));
        }
    }

    int image(int n) {
        if (n != 0 && n != 1) {
            return OUTSIDE;
        }
        images[n] = new PlainCorn();
        images[n].take(this);
        return 1;
    }

    int restore(int n) {
        if (n != 0 && n != 1) {
            return OUTSIDE;
        }
        if (images[n] == null) {
            return STATE;
        }
        take(images[n]);
        return 1;
    }

    int told(int what) {
        if (what < 0 || what > 5) {
            return OUTSIDE;
        }
        return new int[] {pad.length(), rows, columns, openPlaces().size(), beginning, spilt}[what];
    }

    /** Whether the WAY on the PAD can be and can go on by this STEP. */
    boolean canGo(char step) {
        return refusal() == 0 && whyNot(placesOf(beginning, pad), step) == 0;
    }

    private void take(PlainCorn other) {
        rows = other.rows;
        columns = other.columns;
        field = other.field;
        beginning = other.beginning;
        spilt = other.spilt;
    }

    private int refusal() {
        return fault(1) != NONE ? NO : judge(0) != NONE ? STATE : 0;
    }

    private boolean stone(int place) {
        return field.charAt(place) == '#';
    }

    private List<Integer> openPlaces() {
        List<Integer> open = new ArrayList<>();
        for (int p = 0; p < field.length(); p++) {
            if (!stone(p)) {
                open.add(p);
            }
        }
        return open;
    }

    /** The PLACE that a STEP leads to, or -1 beyond the FIELD. */
    private int to(int place, char step) {
        int row = place / columns + (step == 's' ? 1 : step == 'n' ? -1 : 0);
        int column = place % columns + (step == 'e' ? 1 : step == 'w' ? -1 : 0);
        return row < 0 || row == rows || column < 0 || column == columns ? -1 : row * columns + column;
    }

    private int whyNot(List<Integer> cut, char step) {
        int to = to(cut.get(cut.size() - 1), step);
        return to == -1 ? 1 : stone(to) ? 2 : cut.contains(to) ? 3 : 0;
    }

    private List<Integer> placesOf(int from, String way) {
        List<Integer> cut = new ArrayList<>();
        cut.add(from);
        for (int i = 0; i < way.length(); i++) {
            cut.add(to(cut.get(i), way.charAt(i)));
        }
        return cut;
    }

    private Set<Integer> reached(int from, Set<Integer> cut) {
        Set<Integer> reached = new HashSet<>();
        List<Integer> open = new ArrayList<>();
        open.add(from);
        while (!open.isEmpty()) {
            int p = open.remove(open.size() - 1);
            for (char step : ORDER.toCharArray()) {
                int q = to(p, step);
                if (q != -1 && !stone(q) && !cut.contains(q) && reached.add(q)) {
                    open.add(q);
                }
            }
        }
        return reached;
    }

    private List<String> waysFrom(int place) {
        String key = rows + "x" + columns + field.replaceAll("[0-9]", ".") + place;
        List<String> ways = known.get(key);
        if (ways == null) {
            ways = new ArrayList<>();
            ways.add("");
            // Steps are added in another order than the document's, so that none is first by luck.
            for (int i = 0; i < ways.size(); i++) {
                for (char step : "wsen".toCharArray()) {
                    if (whyNot(placesOf(place, ways.get(i)), step) == 0) {
                        ways.add(ways.get(i) + step);
                    }
                }
            }
            known.put(key, ways);
        }
        return ways;
    }

    private int brought(int from, String way) {
        int sum = 0;
        List<Integer> cut = placesOf(from, way);
        for (int t = 0; t < cut.size(); t++) {
            sum += Math.max(0, ears(cut.get(t)) - spilt * t);
        }
        return sum;
    }

    private String mostBrought(List<String> ways) {
        Map<String, Integer> worth = new HashMap<>();
        for (String way : ways) {
            worth.put(way, brought(beginning, way));
        }
        return chosen(ways, Comparator.comparingInt((String w) -> -worth.get(w)).thenComparingInt(String::length));
    }

    private static String chosen(List<String> ways, Comparator<String> most) {
        Comparator<String> order = most.thenComparing(PlainCorn::numbered);
        String first = ways.get(0);
        for (String way : ways) {
            if (order.compare(way, first) < 0) {
                first = way;
            }
        }
        return first;
    }

    private static String numbered(String way) {
        return way.replace('n', '0').replace('e', '1').replace('s', '2').replace('w', '3');
    }

    private static int sign(String way, int i) {
        return i < 0 || i >= way.length() ? NONE : way.charAt(i);
    }

    private List<Integer> nextPlaces(List<Integer> cut, int from) {
        List<Integer> next = new ArrayList<>();
        for (char step : ORDER.toCharArray()) {
            int q = to(from, step);
            if (q != -1 && !stone(q) && !cut.contains(q)) {
                next.add(q);
            }
        }
        return next;
    }

    private static List<Integer> and(List<Integer> cut, int place) {
        List<Integer> more = new ArrayList<>(cut);
        more.add(place);
        return more;
    }

    private int together(List<Integer> cut, int goes, int waits, boolean waitsIsBlind) {
        List<Integer> next = nextPlaces(cut, goes);
        if (next.isEmpty()) {
            return waitsIsBlind ? cut.size() : together(cut, waits, goes, true);
        }
        int most = 0;
        for (int p : next) {
            most = Math.max(most, together(and(cut, p), waits, p, false));
        }
        return most;
    }

    /** From the first one's side all the way: he wants the most, the second one the least. */
    private int apart(List<Integer> cut, int first, int second, int his, int others, boolean firstGoes) {
        List<Integer> firstNext = nextPlaces(cut, first);
        List<Integer> secondNext = nextPlaces(cut, second);
        if (firstNext.isEmpty() && secondNext.isEmpty()) {
            return his - others;
        }
        List<Integer> next = firstGoes ? firstNext : secondNext;
        if (next.isEmpty()) {
            return apart(cut, first, second, his, others, !firstGoes);
        }
        int best = firstGoes ? -99 : 99;
        for (int p : next) {
            if (firstGoes) {
                best = Math.max(best, apart(and(cut, p), p, second, his + 1, others, false));
            } else {
                best = Math.min(best, apart(and(cut, p), first, p, his, others + 1, true));
            }
        }
        return best;
    }
}
