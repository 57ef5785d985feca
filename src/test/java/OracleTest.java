import java.util.NoSuchElementException;
import java.util.Random;

/** Runs of drawn calls: the program must answer as the oracle does, call by call. */
public final class OracleTest {
    private final Random random;
    private final TeaTrolley x = new TeaTrolley();
    private final Oracle o = new Oracle();
    private final StringBuilder told = new StringBuilder();
    private final int mostRooms;
    private static int wrong = 0;

    private OracleTest(long seed, int mostRooms) {
        this.random = new Random(seed);
        this.mostRooms = mostRooms;
        told.append("seed ").append(seed);
    }

    public static void main(String[] args) {
        int runs = args.length > 0 ? Integer.parseInt(args[0]) : 1500;
        long first = args.length > 1 ? Long.parseLong(args[1]) : 0;
        for (int i = 0; i < runs && wrong < 5; i++) {
            // rows of eight rooms are slow to list, so most runs have fewer
            new OracleTest(first + i, i % 50 == 0 ? 8 : i % 5 == 0 ? 6 : 5).go(i % 3 == 0 ? 500 : 150);
        }
        if (wrong > 0) {
            System.exit(1);
        }
        Due.is("runs with wrong answers", wrong, 0);
        Due.close("OracleTest");
    }

    private void go(int calls) {
        for (int i = 0; i < calls; i++) {
            if (!call()) {
                wrong++;
                System.out.println(told.substring(Math.max(0, told.length() - 3000)));
                return;
            }
        }
    }

    private int upTo(int n) {
        return random.nextInt(n + 1);
    }

    /** Mostly 0 .. n, at times beyond. */
    private int about(int n) {
        int k = random.nextInt(30);
        if (k == 0) {
            return new int[] {-1, -2, n + 1, Integer.MIN_VALUE, Integer.MAX_VALUE, 1 << 30}[random.nextInt(6)];
        }
        return upTo(n);
    }

    private int room() {
        return about(Math.max(1, o.count(0) - 1));
    }

    private boolean same(String call, long a, long b) {
        told.append("\n").append(call).append(" -> ").append(a);
        if (a != b) {
            told.append(" due ").append(b);
        }
        return a == b;
    }

    private boolean same(String call, boolean a, boolean b) {
        return same(call, a ? 1 : 0, b ? 1 : 0);
    }

    // ---- texts ----

    private String blanks(String t) {
        if (random.nextInt(4) > 0) {
            return t;
        }
        StringBuilder s = new StringBuilder();
        for (char c : t.toCharArray()) {
            if (random.nextInt(6) == 0) {
                s.append(' ');
            }
            s.append(c);
        }
        return s.toString();
    }

    private String spoiled(String t) {
        StringBuilder s = new StringBuilder(t);
        String signs = "sdhcpkfxwny:?|&!()=<>+-*/[];0123456789 mz\u00e9";
        int times = 1 + random.nextInt(2);
        for (int i = 0; i < times && s.length() > 0; i++) {
            int p = random.nextInt(s.length());
            char c = signs.charAt(random.nextInt(signs.length()));
            switch (random.nextInt(4)) {
                case 0: s.deleteCharAt(p); break;
                case 1: s.insert(p, c); break;
                case 2: s.setCharAt(p, c); break;
                default: s.setLength(p);
            }
        }
        return s.toString();
    }

    private String item(char letter, int least, int most) {
        int v = least + random.nextInt(most - least + 1);
        return letter + (v < 10 && random.nextInt(9) == 0 ? "0" : "") + v;
    }

    private String officeText() {
        int rooms = 2 + random.nextInt(mostRooms - 1);
        if (random.nextInt(40) == 0) {
            rooms = random.nextInt(11);
        }
        StringBuilder s = new StringBuilder();
        int at = random.nextInt(rooms + 1);
        boolean hot = random.nextBoolean();
        for (int i = 0; i <= rooms; i++) {
            if (i == at && random.nextInt(4) > 0) {
                s.append(s.length() > 0 ? ";" : "").append("s");
                if (random.nextBoolean()) {
                    s.append(item('c', 0, random.nextBoolean() ? 1 : 9));
                }
                if (random.nextBoolean()) {
                    s.append(item('h', 10, 99));
                }
                if (random.nextBoolean()) {
                    s.append(item('k', 1, random.nextBoolean() ? 20 : 60));
                }
                if (random.nextBoolean()) {
                    s.append(item('p', 1, 5));
                }
            }
            if (i == rooms) {
                break;
            }
            s.append(s.length() > 0 ? ";" : "").append("d");
            if (random.nextInt(4) > 0) {
                s.append(item('f', 0, 3));
            }
            if (random.nextInt(8) > 0) {
                s.append(item('x', 0, 9));
            }
            if (random.nextBoolean()) {
                s.append(item('w', 0, 9));
            }
            if (random.nextBoolean()) {
                s.append(item('n', 0, hot ? 99 : 40));
            }
            if (random.nextBoolean()) {
                s.append(item('s', 0, 9));
            }
        }
        return s.toString();
    }

    private String atom(int deep) {
        int k = random.nextInt(10);
        if (k < 4) {
            return "" + "mhfdkn".charAt(random.nextInt(6));
        }
        if (k < 8 || deep > 5) {
            return "" + random.nextInt(random.nextInt(5) == 0 ? 10000 : 12);
        }
        return "[" + sum(deep + 1) + "]";
    }

    private String term(int deep) {
        String s = atom(deep);
        while (random.nextInt(4) == 0) {
            s += (random.nextBoolean() ? "*" : "/") + atom(deep);
        }
        return s;
    }

    private String sum(int deep) {
        String s = term(deep);
        while (random.nextInt(4) == 0) {
            s += (random.nextBoolean() ? "+" : "-") + term(deep);
        }
        return s;
    }

    private String unit(int deep) {
        int k = random.nextInt(8);
        if (k == 0 && deep < 6) {
            return "!" + unit(deep + 1);
        }
        if (k == 1 && deep < 6) {
            return "(" + condition(deep + 1) + ")";
        }
        return sum(deep) + "=<>".charAt(random.nextInt(3)) + sum(deep);
    }

    private String condition(int deep) {
        String s = unit(deep);
        while (random.nextInt(4) == 0) {
            s += (random.nextBoolean() ? "&" : "|") + unit(deep);
        }
        return s;
    }

    private String lawText() {
        int clauses = 1 + random.nextInt(3);
        String s = "";
        for (int i = 0; i < clauses; i++) {
            s += (i > 0 ? ";" : "") + "y:" + (random.nextInt(3) > 0 ? condition(0) + "?" : "") + sum(0);
        }
        return s;
    }

    private String roundText() {
        String digits = "01234567".substring(0, random.nextBoolean() ? 8 : mostRooms);
        StringBuilder s = new StringBuilder();
        int length = 1 + random.nextInt(digits.length());
        for (int i = 0; i < length; i++) {
            char c = digits.charAt(random.nextInt(digits.length()));
            if (s.indexOf("" + c) < 0) {
                s.append(c);
            }
        }
        return s.toString();
    }

    private boolean newText() {
        int k = random.nextInt(o.count(0) == 0 ? 2 : 8);
        int sort = k < 1 ? 0 : k < 4 ? 1 : 2;
        String t = sort == 0 ? officeText() : sort == 1 ? lawText() : roundText();
        if (random.nextInt(20) == 0) {
            t = roundText();
        }
        t = blanks(t);
        if (random.nextInt(4) == 0) {
            t = spoiled(t);
        }
        if (!same("end(0)", x.end(0), o.end(0))) {
            return false;
        }
        for (int i = 0; i < t.length(); i += 20) {
            String part = t.substring(i, Math.min(t.length(), i + 20));
            int[] n = Due.numbers(part);
            if (!same("feed '" + part + "'", x.feed(n[0], n[1], n[2], n[3], n[4]), o.feed(n))) {
                return false;
            }
        }
        for (int s = 0; s < 3; s++) {
            if (!same("fault(" + s + ")", x.fault(s), o.fault(s))) {
                return false;
            }
        }
        return same("text(" + sort + ")", x.text(sort), o.text(sort)) && holdSome();
    }

    private boolean holdSome() {
        int r = upTo(3);
        int l = random.nextBoolean() ? -1 : upTo(3);
        return same("hold " + r, x.hold(r), o.hold(r)) && same("law " + l, x.law(l), o.law(l));
    }

    // ---- calls ----

    private boolean call() {
        int k = random.nextInt(o.count(0) == 0 ? 12 : 50);
        if (k < 2) {
            return newText();
        }
        if (k < 12) {
            return act();
        }
        return k < 30 ? asks() : k < 40 ? more() : told();
    }

    private boolean act() {
        int a, b, c;
        switch (random.nextInt(16)) {
            case 0:
            case 1:
            case 2: return same("day", x.day(), o.day());
            case 3: a = room(); return same("shut " + a, x.shut(a), o.shut(a));
            case 4: boolean oil = random.nextBoolean(); return same("wheels " + oil, x.wheels(oil), o.wheels(oil));
            case 5:
            case 6:
                a = room(); b = room(); c = about(4);
                return same("move " + a + " " + b + " " + c, x.move(a, b, c), o.move(a, b, c));
            case 7: a = about(99); return same("fill 0 " + a, x.fill(0, a), o.fill(0, a));
            case 8: a = about(60); return same("fill 1 " + a, x.fill(1, a), o.fill(1, a));
            case 9: a = about(3); b = about(30); return same("fill " + a + " " + b, x.fill(a, b), o.fill(a, b));
            case 10:
                a = about(random.nextInt(4) == 0 ? 60 : 5);
                long seed = random.nextLong();
                return same("decades " + a + " " + seed, x.decades(a, seed), o.decades(a, seed));
            case 11:
                a = random.nextInt(5) == 0 ? 45 : 1;
                for (int i = 0; i < a; i++) {
                    if (!same("undo", x.undo(), o.undo())) {
                        return false;
                    }
                }
                return true;
            case 12: return same("image", x.image(), o.image());
            case 13: return random.nextInt(3) > 0 || same("back", x.back(), o.back());
            case 14: a = about(9); return same("wobble " + a, x.wobble(a), o.wobble(a));
            default: return holdSome();
        }
    }

    private boolean asks() {
        int a, b, c;
        switch (random.nextInt(12)) {
            case 0: a = room(); b = about(2); return same("comes " + a + " " + b, x.comes(a, b), o.comes(a, b));
            case 1: a = about(1); return same("best " + a, x.best(a), o.best(a));
            case 2:
                a = about((1 << o.count(0)) - 1); b = about(1);
                return same("shortest " + a + " " + b, x.shortest(a, b), o.shortest(a, b));
            case 3: a = about(1); return same("seat " + a, x.seat(a), o.seat(a));
            case 4:
                a = room(); b = about(random.nextInt(3) == 0 ? 999 : 80);
                boolean had = random.nextBoolean();
                if (random.nextInt(3) > 0 || o.fits(-1) == 0) {
                    return true;
                }
                return same("seen " + a + " " + b + " " + had, x.seen(a, b, had), o.seen(a, b, had));
            case 5:
                a = random.nextBoolean() ? -1 : about(Math.max(1, o.fits(-1)));
                return same("fits " + a, x.fits(a), o.fits(a));
            case 6: return same("second", x.second(), o.second());
            case 7: a = about(random.nextInt(4) == 0 ? 999 : 80); return same("ask " + a, x.ask(a), o.ask(a));
            case 8:
                a = about(random.nextInt(4) == 0 ? 200 : 40); b = random.nextBoolean() ? -1 : about(6);
                return same("crumbs " + a + " " + b, x.crumbs(a, b), o.crumbs(a, b));
            case 9: a = room(); b = about(999); return same("shares " + a + " " + b, x.shares(a, b), o.shares(a, b));
            case 10:
                a = room(); b = room(); c = about(1); int d = about(1); int e = about(1);
                return same("game " + a + b + c + d + e, x.game(a, b, c, d, e), o.game(a, b, c, d, e));
            default:
                a = room(); b = room(); c = about(3) - 1;
                return same("rests " + a + b + c, x.rests(a, b, c), o.rests(a, b, c));
        }
    }

    private boolean more() {
        int a, b;
        switch (random.nextInt(8)) {
            case 0: a = room(); b = about(1); return same("meet " + a + " " + b, x.meet(a, b), o.meet(a, b));
            case 1: a = room(); return same("thaw " + a, x.thaw(a), o.thaw(a));
            case 2: a = room(); b = about(100); return same("odds " + a + " " + b, x.odds(a, b), o.odds(a, b));
            case 3: a = room(); return same("season " + a, x.season(a), o.season(a));
            case 4: a = about(5); return same("all " + a, x.all(a), o.all(a));
            case 5: a = about(3); return same("floor " + a, x.floor(a), o.floor(a));
            case 6: a = room(); return same("nearest " + a, x.nearest(a), o.nearest(a));
            default: a = about(3); return same("happy " + a, x.happy(a), o.happy(a));
        }
    }

    private boolean told() {
        int a, b;
        switch (random.nextInt(7)) {
            case 0: a = about(13); return same("count " + a, x.count(a), o.count(a));
            case 1: a = about(3); return same("rule " + a, x.rule(a), o.rule(a));
            case 2: a = about(60); b = about(2); return same("log " + a + " " + b, x.log(a, b), o.log(a, b));
            case 3: a = room(); b = room(); return same("steps " + a + " " + b, x.steps(a, b), o.steps(a, b));
            case 4: a = about(3); b = about(7); return same("round " + a + " " + b, x.round(a, b), o.round(a, b));
            case 5: a = about(240); return random.nextInt(4) > 0 || same("end " + a, x.end(a), o.end(a));
            default:
                a = room(); b = about(6);
                return same("room " + a + " " + b, roomOfProgram(a, b), roomOfOracle(a, b));
        }
    }

    private int roomOfProgram(int a, int b) {
        try {
            return x.room(a, b);
        } catch (NoSuchElementException e) {
            return -7;
        }
    }

    private int roomOfOracle(int a, int b) {
        try {
            return o.room(a, b);
        } catch (NoSuchElementException e) {
            return -7;
        }
    }
}
