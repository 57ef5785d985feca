import java.util.ArrayDeque;
import java.util.ArrayList;
import java.util.Arrays;
import java.util.Deque;
import java.util.HashMap;
import java.util.List;
import java.util.Map;
import java.util.NoSuchElementException;
import java.util.TreeSet;

/**
 * The document once more, in its plainest and slowest form and by other means than the program:
 * every row is listed, laws are worked out from their text, acts are whole copies.
 */
final class Oracle {
    static final int NONE = -1;
    static final int HIDDEN = -1000000;

    /** One room: floor, steps from the lift, workers, how hot, minutes of its stop, frost. */
    static final class Room implements Cloneable {
        int f = 0, x = 1, w = 2, n = 30, s = 1, frost = 0;
        boolean shut = false;

        Room twin() {
            try {
                return (Room) clone();
            } catch (CloneNotSupportedException e) {
                throw new AssertionError(e);
            }
        }
    }

    static final class World {
        List<Room> rooms = new ArrayList<>();
        int heat = 60, cools = 1, pace = 1, cups = 20, works = 0, day = 0;
        List<int[]> log = new ArrayList<>();

        World twin() {
            World t = new World();
            for (Room r : rooms) {
                t.rooms.add(r.twin());
            }
            t.heat = heat;
            t.cools = cools;
            t.pace = pace;
            t.cups = cups;
            t.works = works;
            t.day = day;
            t.log = new ArrayList<>(log);
            return t;
        }
    }

    static final class Trip {
        Map<Integer, int[]> stops = new HashMap<>(); // room: minutes, heat, cups
        int tea, hot, minutes, left;
    }

    private String tape = "";
    private World w = null;
    private World image = null;
    private final List<String> laws = new ArrayList<>();
    private final Map<List<Integer>, Integer> worths = new HashMap<>();
    private final List<String> rounds = new ArrayList<>();
    private int law = NONE, round = NONE, wobble = 0;
    private Deque<World> acts = new ArrayDeque<>();
    private List<int[]> seen = new ArrayList<>();

    // ---- texts ----

    int feed(int... numbers) {
        StringBuilder more = new StringBuilder(tape);
        for (int v : numbers) {
            for (byte b : java.nio.ByteBuffer.allocate(4).putInt(v).array()) {
                if (b != 0) {
                    more.append((char) (b & 255));
                }
            }
        }
        if (more.length() > 240) {
            return NONE;
        }
        tape = more.toString();
        return tape.length();
    }

    boolean end(int n) {
        if (n < 0 || n > tape.length()) {
            return false;
        }
        tape = tape.substring(0, n);
        return true;
    }

    int fault(int sort) {
        if (sort == 0) {
            return officeFault(tape, new World());
        }
        if (sort == 1) {
            return lawFault(tape);
        }
        return sort == 2 ? roundFault(tape) : -2;
    }

    static int roundFault(String t) {
        String had = "";
        for (int i = 0; i < t.length(); i++) {
            char c = t.charAt(i);
            if (c == ' ') {
                continue;
            }
            if ("01234567".indexOf(c) < 0 || had.indexOf(c) >= 0) {
                return i;
            }
            had += c;
        }
        return had.isEmpty() ? t.length() : NONE;
    }

    /** A machine that takes byte after byte: what may come next is its state. */
    static int officeFault(String t, World into) {
        int state = 0; // 0 a clause, 1 an item or ;, 2 a number, 3 within a number
        char kind = 0, letter = 0;
        String had = "", number = "";
        boolean rules = false;
        for (int i = 0; i <= t.length(); i++) {
            char c = i < t.length() ? t.charAt(i) : '.';
            if (state == 3) {
                if (Character.isDigit(c) && c < 128) {
                    number += c;
                    if (number.length() == 3) {
                        return i;
                    }
                    continue;
                }
                if (!set(into, kind, letter, Integer.parseInt(number))) {
                    return i - 1;
                }
                state = 1;
            }
            if (i == t.length()) {
                break;
            }
            if (c == ' ') {
                continue;
            }
            if (state == 0) {
                if (c == 's' && !rules) {
                    rules = true;
                } else if (c == 'd' && into.rooms.size() < 8) {
                    into.rooms.add(new Room());
                } else {
                    return i;
                }
                kind = c;
                had = "";
                state = 1;
            } else if (state == 1) {
                if (c == ';') {
                    state = 0;
                } else if ((kind == 's' ? "hcpk" : "fxwns").indexOf(c) < 0 || had.indexOf(c) >= 0) {
                    return i;
                } else {
                    had += c;
                    letter = c;
                    state = 2;
                }
            } else {
                if (c < '0' || c > '9') {
                    return i;
                }
                number = "" + c;
                state = 3;
            }
        }
        if (state != 1 || into.rooms.size() < 2) {
            return t.length();
        }
        TreeSet<String> places = new TreeSet<>();
        for (Room r : into.rooms) {
            places.add(r.f + "/" + r.x);
        }
        return places.size() < into.rooms.size() ? t.length() : NONE;
    }

    private static boolean set(World into, char kind, char letter, int v) {
        if (kind == 's') {
            switch (letter) {
                case 'h': into.heat = v; return v >= 10 && v <= 99;
                case 'c': into.cools = v; return v <= 9;
                case 'p': into.pace = v; return v >= 1 && v <= 5;
                default: into.cups = v; return v >= 1 && v <= 60;
            }
        }
        Room r = into.rooms.get(into.rooms.size() - 1);
        switch (letter) {
            case 'f': r.f = v; return v <= 3;
            case 'x': r.x = v; return v <= 9;
            case 'w': r.w = v; return v <= 9;
            case 'n': r.n = v; return v <= 99;
            default: r.s = v; return v <= 9;
        }
    }

    /**
     * A machine with a stack of what is open: y the clause's first sum (perhaps a condition's), c a condition
     * of the clause, s its last sum, ( [ !. Behind each byte it knows whether a value or a sign must come.
     */
    static int lawFault(String t) {
        StringBuilder open = new StringBuilder();
        // 0: y, 1: colon, 2: a unit or (where it may be) a sum, 3: an atom, 4: behind an atom, 5: behind a unit
        int state = 0;
        boolean compared = false; // whether the sum at hand is a right side
        int digits = 0;
        Deque<Boolean> kept = new ArrayDeque<>();
        for (int i = 0; i < t.length(); i++) {
            char c = t.charAt(i);
            boolean digit = c >= '0' && c <= '9';
            if (digits > 0 && digit) {
                digits++;
                if (digits == 5) {
                    return i;
                }
                continue;
            }
            digits = 0;
            if (c == ' ') {
                continue;
            }
            int deep = open.toString().replaceAll("[^(\\[!]", "").length();
            char last = open.length() == 0 ? 0 : open.charAt(open.length() - 1);
            if (state == 0) {
                if (c != 'y') {
                    return i;
                }
                state = 1;
            } else if (state == 1) {
                if (c != ':') {
                    return i;
                }
                open.setLength(0);
                open.append('y');
                compared = false;
                state = 2;
            } else if (state == 2 && (c == '!' || c == '(')) {
                if (deep == 6) {
                    return i;
                }
                if (last == 'y') {
                    open.setCharAt(open.length() - 1, 'c');
                }
                open.append(c);
                compared = false;
            } else if (state == 2 || state == 3) {
                if (c == '[') {
                    if (deep == 6) {
                        return i;
                    }
                    open.append('[');
                    kept.push(compared);
                    state = 3;
                } else if (digit || "mhfdkn".indexOf(c) >= 0) {
                    digits = digit ? 1 : 0;
                    state = 4;
                } else {
                    return i;
                }
            } else if ("+-*/".indexOf(c) >= 0) {
                if (state == 5) {
                    return i;
                }
                state = 3;
            } else if (c == ']') {
                if (state == 5 || last != '[') {
                    return i;
                }
                open.setLength(open.length() - 1);
                compared = kept.pop();
                state = 4;
            } else if (c == '=' || c == '<' || c == '>') {
                if (state == 5 || compared || last == '[' || last == 's') {
                    return i;
                }
                if (last == 'y') {
                    open.setCharAt(open.length() - 1, 'c');
                }
                compared = true;
                state = 3;
            } else {
                boolean unitEnds = state == 5 || compared && last != '[';
                if (c == ';') {
                    if (!(state == 4 && (last == 's' || last == 'y'))) {
                        return i;
                    }
                    state = 0;
                    continue;
                }
                if (!unitEnds || "&|?)".indexOf(c) < 0) {
                    return i;
                }
                while (open.length() > 0 && open.charAt(open.length() - 1) == '!') {
                    open.setLength(open.length() - 1);
                }
                last = open.charAt(open.length() - 1);
                compared = false;
                if (c == '&' || c == '|') {
                    state = 2;
                } else if (c == '?') {
                    if (last != 'c') {
                        return i;
                    }
                    open.setCharAt(open.length() - 1, 's');
                    state = 3;
                } else {
                    if (last != '(') {
                        return i;
                    }
                    open.setLength(open.length() - 1);
                    state = 5;
                }
            }
        }
        String o = open.toString();
        boolean whole = state == 4 && (o.equals("y") || o.equals("s"));
        return whole ? NONE : t.length();
    }

    int text(int sort) {
        if (fault(sort) != NONE) {
            return NONE;
        }
        String t = tape.replace(" ", "");
        if (sort == 0) {
            World made = new World();
            officeFault(tape, made);
            w = made;
            image = null;
            acts.clear();
            seen.clear();
            tape = "";
            return w.rooms.size();
        }
        List<String> shelf = sort == 1 ? laws : rounds;
        if (shelf.size() == 4) {
            return NONE;
        }
        shelf.add(t);
        tape = "";
        return shelf.size() - 1;
    }

    // ---- laws, worked out from their text ----

    static int worth(String text, Map<Character, Integer> letters) {
        for (String clause : text.split(";")) {
            String body = clause.substring(2);
            int q = body.indexOf('?');
            if (q < 0 || truth(body.substring(0, q), letters)) {
                return sum(body.substring(q + 1), letters);
            }
        }
        return 0;
    }

    /** Where one of the signs stands outside all brackets: the last such place, or -1. */
    private static int lastOf(String t, String signs) {
        int deep = 0;
        for (int i = t.length() - 1; i >= 0; i--) {
            char c = t.charAt(i);
            if (c == ')' || c == ']') {
                deep++;
            } else if (c == '(' || c == '[') {
                deep--;
            } else if (deep == 0 && signs.indexOf(c) >= 0) {
                return i;
            }
        }
        return -1;
    }

    private static boolean truth(String t, Map<Character, Integer> letters) {
        for (String sign : new String[] {"|", "&"}) {
            int i = lastOf(t, sign);
            if (i >= 0) {
                boolean left = truth(t.substring(0, i), letters);
                boolean right = truth(t.substring(i + 1), letters);
                return sign.equals("|") ? left || right : left && right;
            }
        }
        if (t.charAt(0) == '!') {
            return !truth(t.substring(1), letters);
        }
        if (t.charAt(0) == '(') {
            return truth(t.substring(1, t.length() - 1), letters);
        }
        int i = lastOf(t, "=<>");
        int c = Integer.compare(sum(t.substring(0, i), letters), sum(t.substring(i + 1), letters));
        return t.charAt(i) == '=' ? c == 0 : t.charAt(i) == '<' ? c < 0 : c > 0;
    }

    private static int sum(String t, Map<Character, Integer> letters) {
        for (String signs : new String[] {"+-", "*/"}) {
            int i = lastOf(t, signs);
            if (i >= 0) {
                long left = sum(t.substring(0, i), letters);
                long right = sum(t.substring(i + 1), letters);
                char c = t.charAt(i);
                long v = c == '+' ? left + right : c == '-' ? left - right : c == '*' ? left * right
                        : right == 0 ? 0 : left / right;
                return (int) Math.max(-1000000, Math.min(1000000, v));
            }
        }
        if (t.charAt(0) == '[') {
            return sum(t.substring(1, t.length() - 1), letters);
        }
        return Character.isDigit(t.charAt(0)) ? Integer.parseInt(t) : letters.get(t.charAt(0));
    }

    // ---- going a round ----

    private boolean is(int room) {
        return w != null && room >= 0 && room < w.rooms.size();
    }

    private static int apart(int f1, int x1, Room b) {
        return f1 == b.f ? Math.abs(x1 - b.x) : x1 + b.x + 3 * Math.abs(f1 - b.f);
    }

    private int apart(int a, int b) {
        return apart(w.rooms.get(a).f, w.rooms.get(a).x, w.rooms.get(b));
    }

    private Trip trip(List<Integer> row, boolean allOpen, int heat, int wobbles) {
        Trip t = new Trip();
        t.left = w.cups;
        int f = 0, x = 0, been = 0, h = heat;
        for (int id : row) {
            if (id >= w.rooms.size() || !allOpen && w.rooms.get(id).shut) {
                continue;
            }
            Room r = w.rooms.get(id);
            int d = apart(f, x, r);
            int m = d * w.pace + ((wobbles >> been & 1) == 1 ? w.pace : 0);
            int cool = m * w.cools;
            if (law >= 0) {
                cool = Math.max(0, Math.min(99, worthBy(List.of(law, m, h, r.f, d, t.left, been))));
            }
            h = Math.max(0, h - cool);
            t.minutes += m;
            int poured = Math.min(t.left, r.w);
            t.stops.put(id, new int[] {t.minutes, h, poured});
            t.left -= poured;
            t.tea += poured;
            t.hot += h >= r.n ? poured : 0;
            t.minutes += r.s;
            been++;
            f = r.f;
            x = r.x;
        }
        return t;
    }

    /** By the law and its letters m h f d k n; kept, as the rows of eight rooms ask the same again and again. */
    private int worthBy(List<Integer> asked) {
        Integer kept = worths.get(asked);
        if (kept != null) {
            return kept;
        }
        Map<Character, Integer> letters = new HashMap<>();
        for (int i = 0; i < 6; i++) {
            letters.put("mhfdkn".charAt(i), asked.get(i + 1));
        }
        int worth = worth(laws.get(asked.get(0)), letters);
        worths.put(asked, worth);
        return worth;
    }

    private List<Integer> rowOf(String text) {
        List<Integer> row = new ArrayList<>();
        for (char c : text.toCharArray()) {
            row.add(c - '0');
        }
        return row;
    }

    private List<Integer> heldRow() {
        return round < 0 ? new ArrayList<>() : rowOf(rounds.get(round));
    }

    private Trip held() {
        return trip(heldRow(), false, w.heat, 0);
    }

    // ---- the face ----

    int rule(int what) {
        return w == null || what < 0 || what > 3 ? NONE : new int[] {w.heat, w.cools, w.pace, w.cups}[what];
    }

    int room(int room, int what) {
        if (!is(room) || what < 0 || what > 6) {
            throw new NoSuchElementException();
        }
        Room r = w.rooms.get(room);
        return new int[] {r.f, r.x, r.w, r.n, r.s, r.frost, r.shut ? 1 : 0}[what];
    }

    boolean law(int v) {
        if (v < -1 || v >= laws.size()) {
            return false;
        }
        law = v;
        return true;
    }

    boolean hold(int v) {
        if (v < -1 || v >= rounds.size()) {
            return false;
        }
        round = v;
        return true;
    }

    int round(int v, int i) {
        if (v < 0 || v >= rounds.size() || i < 0 || i > 7) {
            return HIDDEN;
        }
        return i < rounds.get(v).length() ? rounds.get(v).charAt(i) - '0' : NONE;
    }

    boolean wobble(int v) {
        if (v < 0 || v > 9 || v == wobble) {
            return false;
        }
        wobble = v;
        return true;
    }

    int steps(int a, int b) {
        return is(a) && is(b) ? apart(a, b) : NONE;
    }

    private void act() {
        acts.addLast(w.twin());
        if (acts.size() > 40) {
            acts.removeFirst();
        }
    }

    private int pass() {
        Trip t = held();
        w.works += t.hot;
        for (int i = 0; i < w.rooms.size(); i++) {
            Room r = w.rooms.get(i);
            r.shut = false;
            r.frost = t.stops.containsKey(i) && t.stops.get(i)[2] > 0 ? 0 : Math.min(9, r.frost + 1);
        }
        w.day++;
        w.log.add(0, new int[] {t.tea, t.hot, t.minutes});
        if (w.log.size() > 60) {
            w.log.remove(60);
        }
        return t.hot;
    }

    int day() {
        if (w == null || w.day == 9999) {
            return NONE;
        }
        act();
        return pass();
    }

    boolean shut(int room) {
        if (!is(room) || w.rooms.get(room).shut) {
            return false;
        }
        act();
        w.rooms.get(room).shut = true;
        return true;
    }

    int wheels(boolean oil) {
        if (w == null || (oil ? w.pace == 1 : w.pace == 5)) {
            return NONE;
        }
        act();
        w.pace += oil ? -1 : 1;
        return w.pace;
    }

    int move(int from, int to, int n) {
        if (!is(from) || !is(to) || from == to || n < 1 || n > 9 || w.rooms.get(from).w < n
                || w.rooms.get(to).w + n > 9) {
            return NONE;
        }
        act();
        w.rooms.get(from).w -= n;
        return w.rooms.get(to).w += n;
    }

    int fill(int what, int v) {
        if (w == null || what < 0 || what > 1) {
            return NONE;
        }
        int was = what == 0 ? w.heat : w.cups;
        if (v == was || v < (what == 0 ? 10 : 1) || v > (what == 0 ? 99 : 60)) {
            return NONE;
        }
        act();
        if (what == 0) {
            w.heat = v;
        } else {
            w.cups = v;
        }
        return was;
    }

    private long x;

    private int draw(int j) {
        x = x * 6364136223846793005L + 1442695040888963407L;
        return (int) ((x >>> 33) % j);
    }

    int decades(int n, long seed) {
        if (w == null || n < 1 || n > 60 || w.day + n > 9999) {
            return NONE;
        }
        x = seed;
        for (int i = 0; i < n; i++) {
            act();
            w.pace = draw(10) < wobble ? Math.min(5, w.pace + 1) : Math.max(1, w.pace - 1);
            w.rooms.get(draw(w.rooms.size())).shut = true;
            if (!rounds.isEmpty()) {
                round = draw(rounds.size());
            }
            pass();
        }
        return w.day;
    }

    int undo() {
        if (acts.isEmpty()) {
            return NONE;
        }
        w = acts.removeLast();
        return acts.size();
    }

    int log(int i, int what) {
        return w == null || i < 0 || i >= w.log.size() || what < 0 || what > 2 ? NONE : w.log.get(i)[what];
    }

    int comes(int room, int what) {
        if (!is(room) || what < 0 || what > 2 || !held().stops.containsKey(room)) {
            return NONE;
        }
        return held().stops.get(room)[what];
    }

    /** All rows of these rooms, rising. */
    private static void rows(List<Integer> of, List<Integer> sofar, List<List<Integer>> into) {
        if (sofar.size() == of.size()) {
            into.add(new ArrayList<>(sofar));
            return;
        }
        for (int r : of) {
            if (!sofar.contains(r)) {
                sofar.add(r);
                rows(of, sofar, into);
                sofar.remove(sofar.size() - 1);
            }
        }
    }

    private List<List<Integer>> rowsOf(int bits) {
        List<Integer> of = new ArrayList<>();
        for (int r = 0; r < w.rooms.size(); r++) {
            if ((bits >> r & 1) == 1) {
                of.add(r);
            }
        }
        List<List<Integer>> into = new ArrayList<>();
        rows(of, new ArrayList<>(), into);
        return into;
    }

    private static int number(List<Integer> row) {
        int v = 0;
        for (int r : row) {
            v = v * 10 + r;
        }
        return v;
    }

    int best(int what) {
        if (w == null || what < 0 || what > 1) {
            return NONE;
        }
        int row = NONE, most = NONE;
        for (List<Integer> r : rowsOf(255)) {
            int hot = trip(r, true, w.heat, 0).hot;
            if (hot > most) {
                most = hot;
                row = number(r);
            }
        }
        return what == 0 ? row : most;
    }

    int shortest(int bits, int what) {
        if (w == null || bits < 1 || bits >= 1 << w.rooms.size() || what < 0 || what > 1) {
            return NONE;
        }
        int row = NONE, least = NONE;
        for (List<Integer> r : rowsOf(bits)) {
            Trip t = trip(r, true, w.heat, 0);
            int workers = 0;
            for (int id : r) {
                workers += w.rooms.get(id).w;
            }
            int minutes = t.stops.get(r.get(r.size() - 1))[0];
            if (t.hot == workers && (row == NONE || minutes < least)) {
                row = number(r);
                least = minutes;
            }
        }
        return what == 0 ? row : least;
    }

    int seat(int what) {
        if (w == null || what < 0 || what > 1) {
            return NONE;
        }
        int pair = NONE, most = NONE;
        for (Room a : w.rooms) {
            for (Room b : w.rooms) {
                if (a == b || a.w == 0 || b.w == 9) {
                    continue;
                }
                a.w--;
                b.w++;
                int hot = held().hot;
                a.w++;
                b.w--;
                if (hot > most) {
                    most = hot;
                    pair = 10 * w.rooms.indexOf(a) + w.rooms.indexOf(b);
                }
            }
        }
        return what == 0 ? pair : most;
    }

    int seen(int room, int t, boolean had) {
        if (!is(room) || t < 0 || t > 999 || seen.size() == 10) {
            return NONE;
        }
        seen.add(new int[] {room, t, had ? 1 : 0});
        return seen.size();
    }

    private List<List<Integer>> fitting() {
        List<List<Integer>> all = new ArrayList<>();
        for (List<Integer> r : rowsOf(255)) {
            Trip t = trip(r, true, w.heat, 0);
            boolean so = true;
            for (int[] s : seen) {
                so &= (t.stops.get(s[0])[0] <= s[1]) == (s[2] == 1);
            }
            if (so) {
                all.add(r);
            }
        }
        return all;
    }

    int fits(int i) {
        if (w == null || i < -1) {
            return NONE;
        }
        List<List<Integer>> all = fitting();
        return i == -1 ? all.size() : i < all.size() ? number(all.get(i)) : NONE;
    }

    int second() {
        return w == null ? NONE : fitting().isEmpty() ? 1 : 0;
    }

    int ask(int t) {
        if (w == null || t < 0 || t > 999) {
            return NONE;
        }
        List<List<Integer>> all = fitting();
        int[] apart = new int[w.rooms.size()];
        for (List<Integer> r : all) {
            Trip trip = trip(r, true, w.heat, 0);
            for (int id = 0; id < apart.length; id++) {
                apart[id] += trip.stops.get(id)[0] <= t ? 1 : -1;
            }
        }
        int place = NONE;
        for (int id = 0; id < apart.length && !all.isEmpty(); id++) {
            if (place == NONE || Math.abs(apart[id]) < Math.abs(apart[place])) {
                place = id;
            }
        }
        return place;
    }

    int crumbs(int e, int i) {
        if (w == null || e < 0 || e > 200 || i < -1) {
            return NONE;
        }
        Trip t = held();
        List<Integer> sets = new ArrayList<>();
        for (int set = 0; set < 1 << w.rooms.size(); set++) {
            int cups = 0;
            boolean may = true;
            for (int id = 0; id < w.rooms.size(); id++) {
                int poured = t.stops.containsKey(id) ? t.stops.get(id)[2] : 0;
                boolean in = (set >> id & 1) == 1;
                cups += in ? 2 * poured : poured;
                may &= !in || w.rooms.get(id).w > 0;
            }
            if (may && cups == e) {
                sets.add(set);
            }
        }
        return i == -1 ? sets.size() : i < sets.size() ? sets.get(i) : NONE;
    }

    int shares(int room, int c) {
        if (!is(room) || c < 0 || c > 999) {
            return NONE;
        }
        Trip t = held();
        return t.tea == 0 || !t.stops.containsKey(room) ? 0 : c * t.stops.get(room)[2] / t.tea;
    }

    private int has(int room, int own, int other) {
        Trip t = held();
        int v = t.stops.containsKey(room) ? t.stops.get(room)[1] / 10 : 0;
        return v + (own == 1 && other == 0 ? 2 : 0) - (own == 1 && other == 1 ? 1 : 0)
                - (own == 0 && other == 1 ? 1 : 0);
    }

    int game(int one, int other, int x, int y, int what) {
        if (!is(one) || !is(other) || one == other || (x & ~1) != 0 || (y & ~1) != 0 || (what & ~1) != 0) {
            return HIDDEN;
        }
        return what == 0 ? has(one, x, y) : has(other, y, x);
    }

    int rests(int one, int other, int i) {
        if (!is(one) || !is(other) || one == other || i < -1) {
            return NONE;
        }
        List<Integer> all = new ArrayList<>();
        for (int p : new int[] {0, 1, 10, 11}) {
            int a = p / 10, b = p % 10;
            if (game(one, other, a, b, 0) >= game(one, other, 1 - a, b, 0)
                    && game(one, other, a, b, 1) >= game(one, other, a, 1 - b, 1)) {
                all.add(p);
            }
        }
        return i == -1 ? all.size() : i < all.size() ? all.get(i) : NONE;
    }

    int meet(int room, int what) {
        if (!is(room) || what < 0 || what > 1) {
            return NONE;
        }
        Trip t = held();
        int place = NONE, heat = NONE;
        for (int id = 0; id < w.rooms.size(); id++) {
            int[] s = t.stops.get(id);
            if (s != null && apart(room, id) <= s[0] && s[1] > heat) {
                place = id;
                heat = s[1];
            }
        }
        return what == 0 ? place : heat;
    }

    int thaw(int room) {
        if (!is(room)) {
            return NONE;
        }
        for (int h = 10; h < 100; h++) {
            int[] s = trip(heldRow(), false, h, 0).stops.get(room);
            if (s != null && s[1] >= w.rooms.get(room).n) {
                return h;
            }
        }
        return NONE;
    }

    int odds(int room, int chance) {
        if (!is(room) || chance < 0 || chance > 100) {
            return NONE;
        }
        List<Integer> to = new ArrayList<>();
        for (int id : heldRow()) {
            if (id < w.rooms.size() && !w.rooms.get(id).shut && !to.contains(room)) {
                to.add(id);
            }
        }
        if (!to.contains(room)) {
            return 0;
        }
        int sum = 0;
        for (int bits = 0; bits < 1 << to.size(); bits++) {
            int part = 1000000;
            for (int i = 0; i < to.size(); i++) {
                int wob = part * chance / 100;
                part = (bits >> i & 1) == 1 ? wob : part - wob;
            }
            if (part > 0 && trip(to, false, w.heat, bits).stops.get(room)[1] >= w.rooms.get(room).n) {
                sum += part;
            }
        }
        return sum;
    }

    int season(int room) {
        if (!is(room)) {
            return NONE;
        }
        int[] s = held().stops.get(room);
        return s == null || s[1] < 20 ? 0 : s[1] < 40 ? 1 : s[1] < 60 ? 2 : 3;
    }

    int all(int what) {
        if (w == null || what < 0 || what > 5) {
            return NONE;
        }
        Trip t = held();
        int lack = 0, cold = NONE, lost = 0, ice = 0;
        for (int id = 0; id < w.rooms.size(); id++) {
            int[] s = t.stops.get(id);
            lack += w.rooms.get(id).w - (s == null ? 0 : s[2]);
            lost |= s == null ? 1 << id : 0;
            ice |= w.rooms.get(id).frost > 2 ? 1 << id : 0;
            if (s != null && (cold == NONE || s[1] < t.stops.get(cold)[1])) {
                cold = id;
            }
        }
        return new int[] {t.left, lack, t.minutes, cold, lost, ice}[what];
    }

    int floor(int f) {
        if (w == null || f < 0 || f > 3) {
            return NONE;
        }
        int bits = 0;
        for (Room r : w.rooms) {
            bits |= r.f == f ? 1 << w.rooms.indexOf(r) : 0;
        }
        return bits;
    }

    int nearest(int room) {
        if (!is(room)) {
            return NONE;
        }
        int place = NONE;
        for (int id = w.rooms.size() - 1; id >= 0; id--) {
            if (id != room && (place == NONE || apart(room, id) <= apart(room, place))) {
                place = id;
            }
        }
        return place;
    }

    int happy(int v) {
        return w == null || v < 0 || v >= rounds.size() ? NONE : trip(rowOf(rounds.get(v)), true, w.heat, 0).hot;
    }

    int image() {
        if (w == null) {
            return NONE;
        }
        image = w.twin();
        return w.day;
    }

    int back() {
        if (image == null) {
            return NONE;
        }
        w = image.twin();
        acts.clear();
        return w.day;
    }

    int count(int what) {
        int workers = 0, shut = 0;
        for (int id = 0; w != null && id < w.rooms.size(); id++) {
            workers += w.rooms.get(id).w;
            shut |= w.rooms.get(id).shut ? 1 << id : 0;
        }
        int[] all = {w == null ? 0 : w.rooms.size(), laws.size(), rounds.size(), tape.length(), law, round,
            w == null ? 0 : w.day, w == null ? 0 : w.works, workers, wobble, seen.size(), shut,
            w == null ? 0 : w.log.size(), acts.size()};
        return what < 0 || what >= all.length ? HIDDEN : all[what];
    }

    static {
        // the machine for laws against texts that are known
        String[] good = {"y:1", "y:m>1?2;y:0", "y:!(m=1)?[1+2]*3", "y:(m=1|!h<2)&[k]>3?n/0"};
        for (String g : good) {
            if (lawFault(g) != NONE) {
                throw new AssertionError(g + Arrays.toString(new int[] {lawFault(g)}));
            }
        }
    }
}
