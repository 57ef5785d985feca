import java.math.BigInteger;

/** Parts 2 and 4 of the Terms, sentence by sentence: ways, days, acts, decades, images. */
final class EdgeDays {
    private EdgeDays() {
    }

    static void run() {
        steps();
        ways();
        cooling();
        letters();
        pouring();
        lastDay();
        dayByDay();
        frost();
        log();
        doorsAndWheels();
        workersAndUrn();
        undoing();
        undoingOthers();
        draws();
        drawnDays();
        decadesAsActs();
        images();
        whatImagesLeaveOut();
    }

    private static void says(String words) {
        Doc.says(Doc.TERMS, words);
    }

    // ---- part 2 ----

    private static void steps() {
        says("STEPS from a ROOM to another one: on one FLOOR how far apart they are from the lift;");
        TeaTrolley x = Due.office("dx2;dx9;dx0;df2x3;df2x8");
        int[][] same = {{0, 1, 7}, {1, 0, 7}, {0, 2, 2}, {2, 1, 9}, {3, 4, 5}, {4, 3, 5}, {0, 0, 0}, {4, 4, 0}};
        for (int[] s : same) {
            Due.is("steps " + s[0] + " " + s[1], x.steps(s[0], s[1]), s[2]);
        }
        says("else both ways to the lift together, and 3 for each FLOOR between.");
        TeaTrolley y = Due.office("dx0;df1x0;df2x0;df3x0;df3x9;dx9");
        int[][] other = {{0, 1, 3}, {0, 2, 6}, {0, 3, 9}, {1, 3, 6}, {3, 1, 6}, {0, 4, 18}, {5, 4, 27}, {4, 5, 27},
            {5, 1, 12}, {2, 4, 12}};
        for (int[] s : other) {
            Due.is("steps " + s[0] + " " + s[1], y.steps(s[0], s[1]), s[2]);
        }
    }

    private static void ways() {
        says("It sets out at the lift of FLOOR 0 (0 steps from it).");
        Due.is("on floor 0", Due.office("dx4;df1", "0").comes(0, 0), 4);
        Due.is("at the lift", Due.office("dx0;df1", "0").comes(0, 0), 0);
        Due.is("on floor 3", Due.office("df3x4;df1", "0").comes(0, 0), 13);
        Due.is("at the lift of floor 1", Due.office("df1x0;df2", "0").comes(0, 0), 3);
        says("WAY to a ROOM: STEPS times PACE minutes.");
        Due.is("pace 5", Due.office("sp5;dx9;df3x9", "0").comes(0, 0), 45);
        Due.is("pace 5", Due.office("sp5;dx9;df3x9", "1").comes(1, 0), 90);
        Due.is("pace 1", Due.office("dx9;df3x9", "1").comes(1, 0), 18);
        says("On a ROUND, ROOM by ROOM (of those told that are there and whose DOOR is not shut):");
        TeaTrolley x = Due.office("dx1s0;dx3s0;dx7s0;dx9s0", "3170");
        x.shut(1);
        int[] comes = {17, -1, -1, 9};
        for (int room = 0; room < 4; room++) {
            Due.is("comes " + room, x.comes(room, 0), comes[room]);
        }
        Due.is("2 is not told, 1 is shut", x.all(4), 6);
        x.shut(0);
        x.shut(3);
        Due.is("all of them are shut", x.all(4), 15);
        Due.is("all of them are shut", x.all(2), 0);
        says("(1) it comes MINUTES later by the WAY;");
        TeaTrolley y = Due.office("sp2;dx3s0;df1x2s0", "01");
        Due.is("first way", y.comes(0, 0), 6);
        Due.is("second way", y.comes(1, 0), 22);
        Due.is("all", y.all(2), 22);
    }

    private static void cooling() {
        says("HEAT is less by what it COOLS on it:");
        TeaTrolley x = Due.office("sh60;dx5s9;dx9", "01");
        Due.is("first way", x.comes(0, 1), 55);
        Due.is("from there", x.comes(1, 1), 51);
        says("WORTH by the LAW that holds,");
        Due.law(x, "y:7");
        Due.is("by it", x.comes(0, 1), 53);
        Due.is("by it", x.comes(1, 1), 46);
        Due.law(x, "y:9");
        Due.is("by the other one", x.comes(1, 1), 42);
        says("held within 0 .. 99");
        Due.law(x, "y:0-1");
        Due.is("it does not heat", x.comes(0, 1), 60);
        Due.law(x, "y:0-9999*9999");
        Due.is("it does not heat", x.comes(1, 1), 60);
        TeaTrolley hot = Due.office("sh99;dx5;dx9", "01");
        Due.law(hot, "y:98");
        Due.is("98", hot.comes(0, 1), 1);
        Due.law(hot, "y:99");
        Due.is("99", hot.comes(0, 1), 0);
        Due.law(hot, "y:9999*9999");
        Due.is("far beyond", hot.comes(0, 1), 0);
        says("(none at first: minutes of the WAY times what it COOLS a minute),");
        TeaTrolley y = Due.office("sh99c3p2;dx5;dx9", "01");
        Due.is("10 minutes", y.comes(0, 1), 69);
        Due.is("8 minutes more", y.comes(1, 1), 45);
        Due.is("it cools by nothing", Due.office("sh99c0p5;df3x9;d", "0").comes(0, 1), 99);
        Due.is("a way of no steps", Due.office("sh99c9p5;dx0;d", "0").comes(0, 1), 99);
        says("0 at least;");
        Due.is("just above", Due.office("sh46c9p1;dx5;d", "0").comes(0, 1), 1);
        Due.is("just so", Due.office("sh45c9p1;dx5;d", "0").comes(0, 1), 0);
        Due.is("no less", Due.office("sh44c9p1;dx5;d", "0").comes(0, 1), 0);
        Due.is("no less behind it", Due.office("sh44c9p1;dx5;d", "01").comes(1, 1), 0);
        TeaTrolley cold = Due.office("sh10;dx5;d", "0");
        Due.law(cold, "y:11");
        Due.is("by a law", cold.comes(0, 1), 0);
    }

    private static void letter(String letter, int first, int second) {
        // 4 steps of 2 minutes to room 0 (floor 0), 14 steps to room 1 (floor 2)
        TeaTrolley x = Due.office("sh90k7p2;dx4w2;df2x4w1", "701");
        Due.law(x, "y:n=0?" + letter + ";y:0");
        Due.is(letter + " on the first way", 90 - x.comes(0, 1), first);
        Due.law(x, "y:n=1?" + letter + ";y:9");
        Due.is(letter + " on the second way", 81 - x.comes(1, 1), second);
    }

    private static void letters() {
        says("letters: m minutes of the WAY,");
        letter("m", 8, 28);
        says("h HEAT as it left,");
        letter("h/9", 10, 9);
        says("f FLOOR of the ROOM,");
        letter("f", 0, 2);
        says("d STEPS,");
        letter("d", 4, 14);
        says("k CUPS left,");
        letter("k", 7, 5);
        says("n at how many ROOMS it was;");
        letter("n", 0, 1);
        // a room behind a shut door and one that is not there do not count, one without workers does
        TeaTrolley x = Due.office("sh99;dx1;dx2w0;dx3", "0172");
        Due.law(x, "y:n*10");
        Due.is("behind two rooms", x.comes(2, 1), 69);
        x.shut(0);
        Due.is("behind one room", x.comes(2, 1), 89);
    }

    private static void pouring() {
        says("(2) it POURS: as many CUPS as there are WORKERS, or what is left:");
        TeaTrolley x = Due.office("sk5;dx1w3;dx2w3;dx3w3;dx4w0", "0123");
        int[] cups = {3, 2, 0, 0};
        for (int room = 0; room < 4; room++) {
            Due.is("cups " + room, x.comes(room, 2), cups[room]);
        }
        x.fill(1, 6);
        Due.is("just enough", x.comes(1, 2), 3);
        Due.is("none left", x.comes(2, 2), 0);
        says("they have tea, HOT, if HEAT is as much as they want or more;");
        TeaTrolley y = Due.office("sc0h50;dx1w3n50;dx2w4n51;dx3w2n49", "012");
        Due.is("as much, and more", y.day(), 5);
        Due.is("all have tea", y.log(0, 0), 9);
        Due.is("wants nothing", Due.office("sh10c9;dx9w3n0;d", "0").day(), 3);
        says("(3) it STOPS there (MINUTES more, HEAT stays).");
        TeaTrolley z = Due.office("sc1;dx1s9;dx2s0;dx3s5", "012");
        int[][] due = {{1, 59}, {11, 58}, {12, 57}};
        for (int room = 0; room < 3; room++) {
            Due.is("minutes " + room, z.comes(room, 0), due[room][0]);
            Due.is("heat " + room, z.comes(room, 1), due[room][1]);
        }
        Due.is("the last stop counts", z.all(2), 17);
    }

    /** An office on its day 9,999 less n. */
    static TeaTrolley lateOffice(int n) {
        TeaTrolley x = Due.office("d;dx2", "0");
        for (int i = 0; i < 166; i++) {
            x.decades(60, i);
        }
        Due.is("decades", x.decades(39 - n, 7), 9999 - n);
        return x;
    }

    private static void lastDay() {
        says("A DAY (0 at first; 9,999 at most: none goes by then)");
        Due.is("at first", Due.office("d;dx2").count(6), 0);
        TeaTrolley x = lateOffice(1);
        Due.is("one more", x.day() >= 0, true);
        Due.is("the last", x.count(6), 9999);
        int works = x.count(7);
        int acts = x.count(13);
        Due.is("none goes by", x.day(), -1);
        Due.is("none goes by", x.decades(1, 0), -1);
        Due.is("the last", x.count(6), 9999);
        Due.is("works as before", x.count(7), works);
        Due.is("acts as before", x.count(13), acts);
        Due.is("other acts go on", x.wheels(false), 2);
        Due.is("undo", x.undo() >= 0, true);
        Due.is("undo", x.undo() >= 0, true);
        Due.is("one less", x.count(6), 9998);
        Due.is("and again", x.decades(1, 0), 9999);
        TeaTrolley y = lateOffice(3);
        Due.is("too many at once", y.decades(4, 0), -1);
        Due.is("none of them went by", y.count(6), 9996);
        Due.is("just so many", y.decades(3, 0), 9999);
    }

    private static void dayByDay() {
        says("by the ROUND that holds (none at first: no ROOM):");
        TeaTrolley x = Due.office("d;dx2");
        Due.tell(x, 2, "0", 0);
        Due.tell(x, 2, "01", 1);
        Due.is("none at first", x.count(5), -1);
        Due.is("none at first", x.day(), 0);
        Due.is("no minutes", x.log(0, 2), 0);
        x.hold(0);
        Due.is("by 0", x.day(), 2);
        x.hold(1);
        Due.is("by 1", x.day(), 4);
        x.hold(-1);
        Due.is("by none", x.day(), 0);
        says("WORKS is more by how many had it HOT;");
        Due.is("0, 2, 4 and 0", x.count(7), 6);
        TeaTrolley cold = Due.office("sh10;d;dx2", "01");
        cold.day();
        Due.is("cold tea is no works", cold.count(7), 0);
    }

    private static void frosts(TeaTrolley x, int... due) {
        for (int room = 0; room < due.length; room++) {
            Due.is("frost " + room, x.room(room, 5), due[room]);
        }
    }

    private static void frost() {
        says("FROST of a ROOM (0 at first): 0, if a CUP was POURED there, else one more (9 at most);");
        TeaTrolley x = Due.office("sk3;dx1w3;dx2w3;dx3w0;dx4", "210");
        frosts(x, 0, 0, 0, 0);
        // 2 has no workers, 1 takes all cups, 0 finds none, 3 is not told
        for (int i = 1; i <= 11; i++) {
            x.day();
            frosts(x, Math.min(9, i), 0, Math.min(9, i), Math.min(9, i));
        }
        x.fill(1, 4);
        x.day();
        frosts(x, 0, 0, 9, 9);
        x.shut(1);
        x.day();
        frosts(x, 0, 1, 9, 9);
        Due.is("cold tea thaws, too", Due.office("sh10;dw2n99;dx2", "0").day(), 0);
        TeaTrolley cold = Due.office("sh10;dw2n99;dx2", "0");
        cold.day();
        frosts(cold, 0, 1);
        says("all DOORS are open then; the DAY is one later.");
        TeaTrolley y = Due.office("d;dx2", "0");
        y.shut(0);
        y.shut(1);
        Due.is("both", y.count(11), 3);
        y.day();
        Due.is("open", y.count(11), 0);
        Due.is("open", y.room(0, 6) + y.room(1, 6), 0);
        Due.is("one later", y.count(6), 1);
    }

    private static void log() {
        says("LOG: how many had tea, had it HOT, MINUTES in all (the latest 60).");
        TeaTrolley x = Due.office("sc0;dx1w3s2;dx5w2n99s4", "01");
        Due.is("empty", x.count(12), 0);
        x.day();
        Due.is("had tea", x.log(0, 0), 5);
        Due.is("had it hot", x.log(0, 1), 3);
        Due.is("minutes", x.log(0, 2), 11);
        x.hold(-1);
        for (int i = 1; i < 60; i++) {
            x.day();
        }
        Due.is("60", x.count(12), 60);
        Due.is("the first of them", x.log(59, 0), 5);
        x.day();
        Due.is("60 still", x.count(12), 60);
        Due.is("the first is gone", x.log(59, 0), 0);
        Due.is("no such one", x.log(60, 0), -1);
    }

    private static void doorsAndWheels() {
        says("By hand: a DAY;");
        TeaTrolley x = Due.office("sp3;dw5;dx2w5", "01");
        x.day();
        Due.is("an act", x.count(13), 1);
        says("a DOOR is SHUT (once ahead of a DAY);");
        Due.is("once", x.shut(0), true);
        Due.is("twice", x.shut(0), false);
        Due.is("another one", x.shut(1), true);
        x.day();
        Due.is("once more behind a day", x.shut(0), true);
        Due.is("twice", x.shut(0), false);
        says("wheels are OILED (PACE one less, 1 at least: else it can't be);");
        Due.is("2", x.wheels(true), 2);
        Due.is("1", x.wheels(true), 1);
        Due.is("it can't be", x.wheels(true), -1);
        Due.is("1 as before", x.rule(2), 1);
        says("wheels WEAR (PACE one more, 5 at most);");
        for (int pace = 2; pace <= 5; pace++) {
            Due.is("worn", x.wheels(false), pace);
        }
        Due.is("no more", x.wheels(false), -1);
        Due.is("5 as before", x.rule(2), 5);
    }

    private static void workersAndUrn() {
        says("WORKERS MOVE (1 .. 9) from a ROOM to another one (9 at most there);");
        TeaTrolley x = Due.office("dw9;dx2w0;dx3w9;dx4w1");
        Due.is("0", x.move(0, 1, 0), -1);
        Due.is("10", x.move(0, 1, 10), -1);
        Due.is("9", x.move(0, 1, 9), 9);
        Due.is("none are left", x.room(0, 2), 0);
        Due.is("it is full", x.move(3, 1, 1), -1);
        Due.is("1", x.move(3, 0, 1), 1);
        Due.is("up to 9", x.move(1, 0, 8), 9);
        Due.is("beyond", x.move(1, 0, 1), -1);
        Due.is("to itself", x.move(1, 1, 1), -1);
        Due.is("as many as ahead", x.count(8), 19);
        says("HEAT as it sets out is set (10 .. 99);");
        int[][] heats = {{9, -1}, {10, 60}, {99, 10}, {100, -1}, {11, 99}};
        for (int[] h : heats) {
            Due.is("heat " + h[0], x.fill(0, h[0]), h[1]);
        }
        Due.is("heat", x.rule(0), 11);
        says("CUPS are set (1 .. 60).");
        int[][] cups = {{0, -1}, {1, 20}, {60, 1}, {61, -1}, {2, 60}};
        for (int[] c : cups) {
            Due.is("cups " + c[0], x.fill(1, c[0]), c[1]);
        }
        Due.is("cups", x.rule(3), 2);
    }

    private static void undoing() {
        says("All these are ACTS:");
        TeaTrolley x = Due.office("sp2;dw5;dx2w5", "01");
        x.day();
        x.shut(1);
        x.wheels(true);
        x.wheels(false);
        x.move(0, 1, 3);
        x.fill(0, 77);
        x.fill(1, 7);
        Due.is("seven", x.count(13), 7);
        says("the latest 40 can be UNDONE one by one");
        Due.is("cups", x.undo() * 100 + x.rule(3), 620);
        Due.is("heat", x.undo() * 100 + x.rule(0), 560);
        Due.is("move", x.undo() * 100 + x.room(0, 2) * 10 + x.room(1, 2), 455);
        Due.is("wear", x.undo() * 100 + x.rule(2), 301);
        Due.is("oil", x.undo() * 100 + x.rule(2), 202);
        Due.is("door", x.undo() * 100 + x.count(11), 100);
        Due.is("day", x.undo() * 100 + x.count(6), 0);
        Due.is("none", x.undo(), -1);
        for (int i = 1; i <= 45; i++) {
            x.fill(0, 10 + i);
            Due.is("40 at most", x.count(13), Math.min(i, 40));
        }
        for (int i = 39; i >= 0; i--) {
            Due.is("undone", x.undo(), i);
            Due.is("heat", x.rule(0), 15 + i);
        }
        Due.is("the 41st can't be", x.undo(), -1);
        Due.is("heat", x.rule(0), 15);
        says("(LOG, too).");
        TeaTrolley y = Due.office("d;dx2", "01");
        y.day();
        y.hold(-1);
        for (int i = 0; i < 61; i++) {
            y.day();
        }
        Due.is("60", y.count(12), 60);
        y.undo();
        Due.is("60 still", y.count(12), 60);
        Due.is("the first day is not told", y.log(59, 0), 0);
        y.undo();
        Due.is("60 still", y.count(12), 60);
        Due.is("it is told again", y.log(59, 0), 4);
        y.undo();
        Due.is("59 days", y.count(6), 59);
        Due.is("59 entries", y.count(12), 59);
        Due.is("the first day", y.log(58, 0), 4);
    }

    private static void undoingOthers() {
        says("(LOG, too).");
        TeaTrolley x = Due.office("sp2k4;dw3;dx2w3", "01");
        x.day();
        x.shut(0);
        x.day();
        Due.is("works", x.count(7), 7);
        frosts(x, 1, 0);
        x.undo();
        Due.is("works", x.count(7), 4);
        frosts(x, 0, 0);
        Due.is("its door is shut again", x.count(11), 1);
        Due.is("log", x.count(12), 1);
        Due.is("the latest", x.log(0, 0), 4);
        Due.is("no other one", x.log(1, 0), -1);
        x.day();
        Due.is("the same day once more", x.count(7), 7);
        // what is no act stays
        x.wobble(3);
        x.seen(0, 3, true);
        Due.law(x, "y:9");
        x.hold(-1);
        x.image();
        x.undo();
        int[] counts = {2, 1, 1, 0, 0, -1, 1, 4, 6, 3, 1, 1, 1, 2};
        for (int i = 0; i < counts.length; i++) {
            Due.is("count " + i, x.count(i), counts[i]);
        }
        Due.is("the image is there", x.back(), 2);
    }

    // ---- part 4 ----

    /** Draws by whole numbers of any size, cut to 64 bits. */
    private static final class Draws {
        private static final BigInteger ROUND = BigInteger.ONE.shiftLeft(64);
        private BigInteger x;

        Draws(long seed) {
            x = BigInteger.valueOf(seed).mod(ROUND);
        }

        int of(int choices) {
            x = x.multiply(new BigInteger("6364136223846793005")).add(new BigInteger("1442695040888963407")).mod(ROUND);
            return x.shiftRight(33).mod(BigInteger.valueOf(choices)).intValue();
        }
    }

    private static final long[] SEEDS = {0, 1, -1, 12345, Long.MAX_VALUE, Long.MIN_VALUE, 0x8000000000L,
        -987654321987L};

    private static void draws() {
        says("x, at first the seed, becomes x times 6364136223846793005 and 1442695040888963407 "
            + "(64 bits, going round);");
        for (long seed : SEEDS) {
            drawn(seed, 3, 8);
        }
        says("a draw of j: (x shifted right by 33, without sign) modulo j.");
        for (long seed : SEEDS) {
            drawn(seed, 9, 7);
        }
    }

    private static void drawnDays() {
        says("DECADES by a seed: n (1 .. 60) DAYS, ahead of each:");
        TeaTrolley x = Due.office("d;dx2");
        Due.is("0", x.decades(0, 5), -1);
        Due.is("61", x.decades(61, 5), -1);
        Due.is("no day went by", x.count(6), 0);
        Due.is("1", x.decades(1, 5), 1);
        Due.is("60", x.decades(60, 5), 61);
        says("a draw of 10 below WOBBLE (0 .. 9; 0 at first):");
        Due.is("at first", Due.office("d;dx2").count(9), 0);
        for (int wobble = 0; wobble <= 9; wobble++) {
            drawn(wobble * 77 - 300, wobble, 2);
        }
        says("PACE one more (5 at most), else one less (1 at least);");
        TeaTrolley slow = Due.office("d;dx2");
        slow.wobble(9);
        slow.decades(60, 3);
        Draws d = new Draws(3);
        int pace = 1;
        for (int i = 0; i < 60; i++) {
            pace = d.of(10) < 9 ? Math.min(5, pace + 1) : Math.max(1, pace - 1);
            d.of(2);
        }
        Due.is("within its bounds", slow.rule(2), pace);
        TeaTrolley fast = Due.office("sp5;d;dx2");
        int[] paces = {4, 3, 2, 1, 1, 1};
        for (int due : paces) {
            fast.decades(1, 99);
            Due.is("by wobble 0", fast.rule(2), due);
        }
        says("a draw of how many ROOMS there are: its DOOR is SHUT;");
        for (int rooms = 2; rooms <= 8; rooms++) {
            drawn(rooms * 1000, 5, rooms);
        }
        shutByHand();
        says("if there are ROUNDS, a draw of how many: that one holds from then on.");
        for (int rounds = 0; rounds <= 4; rounds++) {
            drawnRounds(rounds);
        }
    }

    private static String rooms(int n) {
        StringBuilder s = new StringBuilder("sc0k60");
        for (int i = 0; i < n; i++) {
            s.append(";dx").append(i).append("w1s0");
        }
        return s.toString();
    }

    /** Twenty days by all rooms, with one round: what the log and the frost then tell of the draws. */
    private static void drawn(long seed, int wobble, int rooms) {
        TeaTrolley x = Due.office(rooms(rooms), "01234567");
        x.wobble(wobble);
        Due.is("decades " + seed, x.decades(20, seed), 20);
        Draws d = new Draws(seed);
        int pace = 1;
        int missed = -1;
        for (int day = 0; day < 20; day++) {
            pace = d.of(10) < wobble ? Math.min(5, pace + 1) : Math.max(1, pace - 1);
            missed = d.of(rooms);
            d.of(1);
            int steps = missed == rooms - 1 ? rooms - 2 : rooms - 1;
            Due.is("cups on day " + day, x.log(19 - day, 0), rooms - 1);
            Due.is("minutes on day " + day, x.log(19 - day, 2), steps * pace);
        }
        for (int room = 0; room < rooms; room++) {
            Due.is("frost " + room, x.room(room, 5) > 0, room == missed);
        }
        Due.is("pace", x.rule(2), pace);
        Due.is("doors are open", x.count(11), 0);
    }

    /** A door that was shut by hand is shut on the first day, besides the one that is drawn. */
    private static void shutByHand() {
        for (long seed : SEEDS) {
            TeaTrolley x = Due.office(rooms(5), "01234");
            x.shut(2);
            x.decades(2, seed);
            Draws d = new Draws(seed);
            d.of(10);
            Due.is("cups on the first day", x.log(1, 0), d.of(5) == 2 ? 4 : 3);
            Due.is("cups on the second day", x.log(0, 0), 4);
        }
    }

    private static void drawnRounds(int rounds) {
        TeaTrolley x = Due.office("sc0;dx1w1s0;dx2w2s0;dx3w4s0;dx4w8s0");
        for (int i = 0; i < rounds; i++) {
            Due.tell(x, 2, "" + i, i);
        }
        Due.is("none so far", x.count(5), -1);
        x.decades(30, 4242);
        Draws d = new Draws(4242);
        int held = -1;
        for (int day = 0; day < 30; day++) {
            d.of(10);
            int shut = d.of(4);
            held = rounds > 0 ? d.of(rounds) : -1;
            Due.is("cups on day " + day, x.log(29 - day, 0), held < 0 || held == shut ? 0 : 1 << held);
        }
        Due.is("the last one holds", x.count(5), held);
    }

    private static void decadesAsActs() {
        says("Each DAY with what is ahead of it is one ACT");
        TeaTrolley x = Due.office("sp3;d;dx2", "0");
        Due.tell(x, 2, "1", 1);
        x.shut(0);
        x.decades(5, 8);
        Due.is("five, and the door", x.count(13), 6);
        x.undo();
        Due.is("day", x.count(6), 4);
        Due.is("doors open as behind a day", x.count(11), 0);
        x.undo();
        x.undo();
        x.undo();
        Due.is("pace behind the first", x.rule(2), 2);
        x.undo();
        Due.is("pace ahead of it", x.rule(2), 3);
        Due.is("only the door that was shut by hand", x.count(11), 1);
        Due.is("the door is an act of its own", x.undo(), 0);
        Due.is("open", x.count(11), 0);
        x.decades(60, 8);
        Due.is("40", x.count(13), 40);
        says("(which ROUND holds is not UNDONE).");
        int held = x.count(5);
        x.hold(-1);
        x.decades(1, 8);
        int drawn = x.count(5);
        x.undo();
        Due.is("as it was drawn", x.count(5), drawn);
        Due.is("it was drawn", held >= 0 && drawn >= 0, true);
    }

    private static void images() {
        says("An IMAGE keeps WORKERS, FROST, DOORS, PACE, HEAT, CUPS, WORKS, the DAY, the LOG;");
        TeaTrolley x = Due.office("sp2k4;dw3;dx2w3", "0");
        x.day();
        x.shut(1);
        Due.is("image", x.image(), 1);
        x.move(0, 1, 2);
        x.wheels(true);
        x.fill(0, 33);
        x.fill(1, 3);
        x.day();
        x.day();
        x.shut(0);
        says("BACK: they are so again");
        Due.is("back", x.back(), 1);
        Due.is("workers", x.room(0, 2) * 10 + x.room(1, 2), 33);
        frosts(x, 0, 1);
        Due.is("doors", x.count(11), 2);
        Due.is("pace", x.rule(2), 2);
        Due.is("heat", x.rule(0), 60);
        Due.is("cups", x.rule(3), 4);
        Due.is("works", x.count(7), 3);
        Due.is("day", x.count(6), 1);
        Due.is("log", x.count(12), 1);
        Due.is("log", x.log(0, 0), 3);
        Due.is("log", x.log(1, 0), -1);
        says("(no ACT can be UNDONE then).");
        Due.is("acts", x.count(13), 0);
        Due.is("undo", x.undo(), -1);
        Due.is("those from then on can", x.wheels(false), 3);
        Due.is("one", x.undo(), 0);
        Due.is("none", x.undo(), -1);
    }

    private static void whatImagesLeaveOut() {
        says("(no ACT can be UNDONE then).");
        TeaTrolley x = Due.office("sp2k4;dw3;dx2w3", "0");
        x.day();
        x.day();
        x.image();
        Due.is("an image is no act", x.count(13), 2);
        Due.is("behind an image they can", x.undo(), 1);
        Due.is("behind an image they can", x.undo(), 0);
        Due.is("to a later day", x.back(), 2);
        Due.is("log", x.log(1, 0), 3);
        x.seen(0, 5, true);
        x.wobble(7);
        Due.law(x, "y:1");
        x.hold(-1);
        Due.is("back once more", x.back(), 2);
        Due.is("doors seen", x.count(10), 1);
        Due.is("wobble", x.count(9), 7);
        Due.is("law", x.count(4), 0);
        Due.is("round", x.count(5), -1);
        // the log of an image is as long as the log
        TeaTrolley y = Due.office("d;dx2", "01");
        y.day();
        y.hold(-1);
        y.decades(1, 1);
        y.hold(-1);
        for (int i = 2; i < 60; i++) {
            y.day();
        }
        y.image();
        for (int i = 0; i < 70; i++) {
            y.day();
        }
        Due.is("back", y.back(), 60);
        Due.is("the first of 60", y.log(59, 0), 4);
        Due.is("60", y.count(12), 60);
        wholeLogOfAnImage();
    }

    private static void wholeLogOfAnImage() {
        TeaTrolley x = Due.office("sc0k60;dx1w1s0;dx2w2s0;dx3w4s0", "012");
        x.wobble(5);
        x.decades(60, 21);
        x.decades(37, 22);
        int[] was = new int[180];
        for (int i = 0; i < 180; i++) {
            was[i] = x.log(i / 3, i % 3);
        }
        x.image();
        x.decades(60, 23);
        x.decades(60, 24);
        Due.is("back", x.back(), 97);
        for (int i = 0; i < 180; i++) {
            Due.is("log " + i / 3 + " " + i % 3, x.log(i / 3, i % 3), was[i]);
        }
    }
}
