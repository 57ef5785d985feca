/** The promises 1 to 43, sentence by sentence: what a call answers that is not refused (see Refusals). */
final class EdgePromises {
    private static final String OFFICE = "sh70c2p2k9;dx2w3n60s2;df1x3w4n40s3;dx5w2n30;df2x1w0n0s0";

    private EdgePromises() {
    }

    static void run() {
        newObject();
        feed();
        end();
        fault();
        textOfOffice();
        textOfOthers();
        ruleAndRoom();
        holding();
        rounds();
        acts();
        decadesAndUndo();
        log();
        byTheRound();
        rows();
        crumbsAndGames();
        others();
        images();
        counts();
    }

    private static void says(int promise, String words) {
        Doc.says(promise, words);
    }

    private static TeaTrolley office() {
        return Due.office(OFFICE, "0213");
    }

    private static void newObject() {
        says(1, "No OFFICE.");
        TeaTrolley x = new TeaTrolley();
        int[] counts = {0, 0, 0, 0, -1, -1, 0, 0, 0, 0, 0, 0, 0, 0};
        for (int i = 0; i < counts.length; i++) {
            Due.is("count " + i, x.count(i), counts[i]);
        }
        Due.is("rule", x.rule(0), -1);
        Due.is("day", x.day(), -1);
        Due.is("fits", x.fits(-1), -1);
        // laws and rounds can be told ahead of an office
        Due.tell(x, 1, "y:9", 0);
        Due.tell(x, 2, "10", 0);
        Due.is("law", x.law(0), true);
        Due.is("hold", x.hold(0), true);
        Due.is("wobble", x.wobble(2), true);
        Due.tell(x, 0, "d;dx2", 2);
        Due.is("they hold then", x.comes(0, 1), 42);
    }

    private static void feed() {
        says(2, "Twenty bytes more come to the TAPE (of each number the highest first; bytes of 0 are left out): "
            + "how many it has.");
        TeaTrolley x = new TeaTrolley();
        Due.is("none of twenty", x.feed(0, 0, 0, 0, 0), 0);
        Due.is("one", x.feed(0x30000000, 0, 0, 0, 0), 1);
        Due.is("one more", x.feed(0, 0, 0, 0, 0x31), 2);
        Due.is("five more", x.feed(0x00320000, 0x3300, 0x34003500, 0, 0x36), 7);
        Due.is("text", x.text(2), 0);
        for (int i = 0; i < 7; i++) {
            Due.is("highest first", x.round(0, i), i);
        }
        Due.is("all twenty", x.feed(-1, Integer.MIN_VALUE | 0x010101, 0x7f7f7f7f, 0x80808080, 0x01020304), 20);
        for (int i = 2; i <= 12; i++) {
            Due.is("up to 240", x.feed(-1, -1, -1, -1, -1), 20 * i);
        }
        Due.is("240, and no byte more", x.feed(0, 0, 0, 0, 0), 240);
        x.end(221);
        Due.is("20 beyond it, but 19 bytes", x.feed(-1, -1, -1, -1, 0x01010100), 240);
        x.end(221);
        Due.is("20 bytes", x.feed(-1, -1, -1, -1, -1), -1);
        Due.is("none of them came", x.count(3), 221);
        x.end(220);
        Due.is("20 bytes", x.feed(-1, -1, -1, -1, -1), 240);
    }

    private static void end() {
        says(3, "The TAPE has its first n bytes alone.");
        TeaTrolley x = new TeaTrolley();
        Due.is("0 of none", x.end(0), true);
        Due.tape(x, "01233");
        Due.is("all of them", x.end(5), true);
        Due.is("five", x.count(3), 5);
        Due.is("four", x.end(4), true);
        Due.is("the fault is gone", x.fault(2), -1);
        Due.is("no more of them", x.end(5), false);
        x.feed(0x34000000, 0, 0, 0, 0);
        Due.is("text", x.text(2), 0);
        Due.is("what came behind them", x.round(0, 4), 4);
        Due.is("0 of none", x.end(0), true);
        Due.is("1 of none", x.end(1), false);
    }

    private static void fault() {
        says(4, "The FAULT of the TAPE as an OFFICE (0), a LAW (1), a ROUND (2).");
        TeaTrolley x = new TeaTrolley();
        Due.tape(x, "y:1;");
        Due.is("as an office", x.fault(0), 0);
        Due.is("as a law", x.fault(1), 4);
        Due.is("as a round", x.fault(2), 0);
        Due.tape(x, "0 2x");
        Due.is("as a round", x.fault(2), 3);
        Due.is("four bytes still", x.count(3), 4);
        says(4, "NONE: none.");
        Due.tape(x, "d;dx2");
        Due.is("an office", x.fault(0), -1);
        Due.tape(x, "y:1");
        Due.is("a law", x.fault(1), -1);
        Due.tape(x, "1");
        Due.is("a round", x.fault(2), -1);
        Due.is("it is none so far", x.count(0) + x.count(1) + x.count(2), 0);
    }

    private static void textOfOffice() {
        says(5, "The TAPE (empty then) is the OFFICE");
        TeaTrolley x = Due.office("sp3k2;dw5;dx2;dx3", "012");
        Due.is("empty", x.count(3), 0);
        Due.is("and no fault of it is left", x.fault(0), 0);
        Due.law(x, "y:3");
        x.wobble(4);
        x.day();
        x.day();
        x.shut(1);
        x.seen(0, 900, false);
        x.seen(1, 0, true);
        x.fill(0, 88);
        x.image();
        says(5, "(DAY 0; all that was of another one, DOORS seen, too, is gone");
        Due.tell(x, 0, "df1w1;df2w1", 2);
        int[] counts = {2, 1, 1, 0, 0, 0, 0, 0, 2, 4, 0, 0, 0, 0};
        for (int i = 0; i < counts.length; i++) {
            Due.is("count " + i, x.count(i), counts[i]);
        }
        int[] rules = {60, 1, 1, 20};
        for (int i = 0; i < 4; i++) {
            Due.is("rule " + i, x.rule(i), rules[i]);
        }
        for (int room = 0; room < 2; room++) {
            Due.is("floor", x.room(room, 0), room + 1);
            Due.is("workers", x.room(room, 2), 1);
            Due.is("frost", x.room(room, 5), 0);
            Due.is("door", x.room(room, 6), 0);
        }
        Due.is("no third room", Due.refuses(x, 2, 0), 1);
        Due.is("log", x.log(0, 0), -1);
        Due.is("image", x.back(), -1);
        Due.is("acts", x.undo(), -1);
        Due.is("doors seen", x.second(), 0);
        Due.is("doors seen", x.fits(-1), 2);
        says(5, "but LAWS, ROUNDS, which hold, WOBBLE): how many ROOMS;");
        Due.is("law", x.count(4), 0);
        Due.is("round", x.count(5), 0);
        Due.is("both hold", x.comes(1, 1), 54);
        Due.is("wobble", x.count(9), 4);
        Due.is("told", x.round(0, 2), 2);
    }

    private static void textOfOthers() {
        says(5, "a LAW, a ROUND: its number.");
        TeaTrolley x = new TeaTrolley();
        for (int i = 0; i < 4; i++) {
            Due.tell(x, 1, "y:" + i, i);
            Due.is("empty", x.count(3), 0);
            Due.tell(x, 2, "" + i, i);
            Due.is("empty", x.count(3), 0);
        }
        // laws and rounds touch nothing of the office
        TeaTrolley y = office();
        y.day();
        y.shut(0);
        y.seen(0, 9, true);
        Due.tell(y, 1, "y:1", 0);
        Due.tell(y, 2, "1", 1);
        int[] counts = {4, 1, 2, 0, -1, 0, 1, 5, 9, 0, 1, 1, 1, 2};
        for (int i = 0; i < counts.length; i++) {
            Due.is("count " + i, y.count(i), counts[i]);
        }
    }

    private static void ruleAndRoom() {
        says(6, "The RULES: 0 HEAT as it sets out, 1 how much it COOLS, 2 PACE, 3 CUPS, as they are now.");
        TeaTrolley x = office();
        int[] told = {70, 2, 2, 9};
        for (int i = 0; i < 4; i++) {
            Due.is("rule " + i, x.rule(i), told[i]);
        }
        x.fill(0, 10);
        x.wheels(false);
        x.fill(1, 60);
        int[] now = {10, 2, 3, 60};
        for (int i = 0; i < 4; i++) {
            Due.is("rule " + i, x.rule(i), now[i]);
        }
        says(7, "Of a ROOM: 0 FLOOR, 1 steps from the lift, 2 WORKERS now, 3 how HOT, 4 minutes that it STOPS, "
            + "5 FROST, 6 whether its DOOR is SHUT (1, 0).");
        x.move(1, 3, 1);
        x.shut(1);
        x.day();
        x.shut(3);
        int[][] due = {{0, 2, 3, 60, 2, 0, 0}, {1, 3, 3, 40, 3, 1, 0}, {0, 5, 2, 30, 1, 0, 0}, {2, 1, 1, 0, 0, 0, 1}};
        for (int room = 0; room < 4; room++) {
            for (int what = 0; what < 7; what++) {
                Due.is("room " + room + " " + what, x.room(room, what), due[room][what]);
            }
        }
    }

    private static void holding() {
        says(8, "The LAW that holds (NONE: none).");
        TeaTrolley x = office();
        for (int i = 0; i < 4; i++) {
            Due.tell(x, 1, "y:" + (i + 1), i);
        }
        for (int law : new int[] {0, 3, 3, -1, -1, 2}) {
            Due.is("law " + law, x.law(law), true);
            Due.is("it holds", x.count(4), law);
            Due.is("heat by it", x.comes(0, 1), law < 0 ? 62 : 69 - law);
        }
        says(9, "The ROUND that holds (NONE: none).");
        for (int i = 1; i < 4; i++) {
            Due.tell(x, 2, "" + i, i);
        }
        for (int round : new int[] {1, 3, 3, -1, -1, 2}) {
            Due.is("hold " + round, x.hold(round), true);
            Due.is("it holds", x.count(5), round);
            Due.is("it comes by it", 15 - x.all(4), round < 0 ? 0 : 1 << round);
        }
        Due.is("no acts", x.count(13), 0);
        TeaTrolley none = new TeaTrolley();
        Due.is("none without any", none.law(-1), true);
        Due.is("none without any", none.hold(-1), true);
    }

    private static void rounds() {
        says(10, "Of a ROUND: its i-th ROOM as told (NONE: it is no longer).");
        TeaTrolley x = Due.office("d;dx2", "706");
        int[] due = {7, 0, 6, -1, -1, -1, -1, -1};
        for (int i = 0; i < 8; i++) {
            Due.is("i " + i, x.round(0, i), due[i]);
        }
        Due.tell(x, 2, "76543210", 1);
        for (int i = 0; i < 8; i++) {
            Due.is("i " + i, x.round(1, i), 7 - i);
        }
        Due.tell(x, 2, "3", 2);
        Due.is("one", x.round(2, 0), 3);
        Due.is("no longer", x.round(2, 1), -1);
        says(11, "WOBBLE (0 .. 9).");
        for (int v = 9; v >= 0; v--) {
            Due.is("wobble " + v, x.wobble(v), true);
            Due.is("it is", x.count(9), v);
        }
        says(12, "STEPS.");
        Due.is("apart", x.steps(0, 1), 1);
        Due.is("apart", x.steps(1, 0), 1);
        Due.is("to itself", x.steps(1, 1), 0);
    }

    private static void acts() {
        says(13, "A DAY: how many had it HOT.");
        TeaTrolley x = office();
        Due.is("five", x.day(), 5);
        Due.is("none is hot", Due.office("sh10;d;dx2", "01").day(), 0);
        Due.is("no round", Due.office("d;dx2").day(), 0);
        says(14, "A DOOR is SHUT.");
        Due.is("the last one", x.shut(3), true);
        Due.is("the first one", x.shut(0), true);
        Due.is("doors", x.count(11), 9);
        says(15, "Wheels are OILED (true), WEAR (false): PACE then.");
        Due.is("oiled", x.wheels(true), 1);
        Due.is("worn", x.wheels(false), 2);
        Due.is("pace", x.rule(2), 2);
        says(16, "WORKERS MOVE: how many are there then.");
        Due.is("one", x.move(0, 1, 1), 5);
        Due.is("all that are here", x.move(0, 3, 2), 2);
        Due.is("none are here", x.room(0, 2), 0);
        says(17, "HEAT (what 0), CUPS (1) are set: what it was.");
        Due.is("heat", x.fill(0, 44), 70);
        Due.is("cups", x.fill(1, 44), 9);
        Due.is("heat", x.rule(0), 44);
        Due.is("cups", x.rule(3), 44);
    }

    private static void decadesAndUndo() {
        says(18, "DECADES: the DAY.");
        TeaTrolley x = office();
        Due.is("one", x.decades(1, 5), 1);
        Due.is("two", x.decades(2, 5), 3);
        Due.is("sixty", x.decades(60, -5), 63);
        says(19, "The latest ACT is UNDONE: how many still can be.");
        for (int i = 39; i >= 0; i--) {
            Due.is("undo", x.undo(), i);
        }
        Due.is("day", x.count(6), 23);
    }

    private static void log() {
        says(20, "LOG, the latest (i 0), the one ahead of it (1) ..: 0 how many had tea, 1 HOT, 2 MINUTES.");
        TeaTrolley x = office();
        x.day();
        x.fill(1, 4);
        x.day();
        x.shut(0);
        x.shut(1);
        x.day();
        // to 2 by 10, a stop, 12 steps on to 3
        int[][] due = {{2, 2, 35}, {4, 4, 52}, {9, 5, 52}};
        for (int i = 0; i < 3; i++) {
            for (int what = 0; what < 3; what++) {
                Due.is("log " + i + " " + what, x.log(i, what), due[i][what]);
            }
        }
    }

    private static void byTheRound() {
        says(21, "COMES: MINUTES (0), HEAT (1), CUPS (2).");
        TeaTrolley x = office();
        Due.is("minutes", x.comes(1, 0), 35);
        Due.is("heat", x.comes(1, 1), 6);
        Due.is("cups", x.comes(1, 2), 4);
        says(30, "SHARES.");
        Due.is("share", x.shares(1, 9), 4);
        says(33, "MEET: the ROOM (0), HEAT (1).");
        Due.is("room", x.meet(1, 0), 2);
        Due.is("heat", x.meet(1, 1), 50);
        says(34, "THAW.");
        Due.is("thaw", x.thaw(0), 68);
        says(35, "ODDS.");
        Due.is("odds", x.odds(0, 1), 990000);
        says(36, "SEASON.");
        Due.is("season", x.season(2), 2);
        says(37, "SPARE (0), LACK (1), LAST (2), COLDEST (3; NONE: it comes nowhere), LOST (4, bits), ICE (5, bits).");
        x.fill(1, 60);
        x.hold(-1);
        x.day();
        x.day();
        x.day();
        x.hold(0);
        x.shut(1);
        x.day();
        x.shut(1);
        int[] due = {55, 4, 37, 3, 2, 10};
        for (int i = 0; i < 6; i++) {
            Due.is("all " + i, x.all(i), due[i]);
        }
        x.hold(-1);
        Due.is("coldest: it comes nowhere", x.all(3), -1);
    }

    private static void rows() {
        says(22, "BEST: the row (0), how many (1).");
        TeaTrolley x = Due.office("sh40c5;dx4w5n20;dx1w3n30", "01");
        Due.is("row", x.best(0), 10);
        Due.is("how many", x.best(1), 8);
        says(23, "SHORTEST: the row (0), MINUTES (1).");
        Due.is("row", x.shortest(3, 0), 10);
        Due.is("minutes", x.shortest(3, 1), 5);
        says(24, "MOVE: the two (0), how many (1).");
        Due.is("from 1 to 0", x.seat(0), 10);
        Due.is("how many", x.seat(1), 6);
        says(25, "DOORS seen: how many there are.");
        Due.is("one", x.seen(0, 5, true), 1);
        Due.is("the same once more", x.seen(0, 5, true), 2);
        Due.is("the contrary", x.seen(1, 1, false), 3);
        says(26, "FITS: how many (i NONE), the i-th.");
        Due.is("how many", x.fits(-1), 1);
        Due.is("the first", x.fits(0), 1);
        says(27, "SECOND (1, 0).");
        Due.is("one fits", x.second(), 0);
        x.seen(0, 3, true);
        Due.is("none fits", x.second(), 1);
        says(28, "ASK.");
        Due.is("of 01 and 10, by minute 1: 0 and 1 of 2", Due.office("dx4;dx1").ask(1), 1);
        Due.is("by minute 999: all alike", Due.office("dx4;dx1").ask(999), 0);
        Due.is("by minute 0: all alike", Due.office("dx4;dx1").ask(0), 0);
    }

    private static void crumbsAndGames() {
        TeaTrolley x = office();
        says(29, "CRUMBS: how many (i NONE), the i-th.");
        Due.is("how many", x.crumbs(12, -1), 1);
        Due.is("the first", x.crumbs(12, 0), 1);
        says(31, "GAME: what the first has (0), the second (1).");
        Due.is("first", x.game(2, 0, 1, 0, 0), 7);
        Due.is("second", x.game(2, 0, 1, 0, 1), 5);
        says(32, "RESTS: how many (i NONE), the i-th.");
        Due.is("how many", x.rests(2, 0, -1), 3);
        Due.is("the first", x.rests(2, 0, 0), 1);
        Due.is("the last", x.rests(2, 0, 2), 11);
    }

    private static void others() {
        TeaTrolley x = office();
        says(38, "FLOOR, as bits.");
        Due.is("0", x.floor(0), 5);
        Due.is("3: no room", x.floor(3), 0);
        says(39, "NEAREST.");
        Due.is("of 0", x.nearest(0), 2);
        says(40, "HAPPY.");
        Due.is("by 0", x.happy(0), 5);
    }

    private static void images() {
        says(41, "An IMAGE (instead of the one ahead): the DAY.");
        TeaTrolley x = office();
        Due.is("day 0", x.image(), 0);
        x.day();
        Due.is("day 1", x.image(), 1);
        x.day();
        says(42, "BACK: the DAY.");
        Due.is("the later one", x.back(), 1);
        Due.is("once more", x.back(), 1);
        x.day();
        Due.is("and behind a day", x.back(), 1);
    }

    private static void counts() {
        says(43, "0 ROOMS, 1 LAWS, 2 ROUNDS, 3 bytes of the TAPE, 4 the LAW that holds (NONE), "
            + "5 the ROUND that holds (NONE), 6 the DAY, 7 WORKS, 8 WORKERS of all, 9 WOBBLE, 10 DOORS seen, "
            + "11 DOORS that are SHUT (bits), 12 how long the LOG is, 13 ACTS that can be UNDONE.");
        TeaTrolley x = office();
        int[] first = {4, 0, 1, 0, -1, 0, 0, 0, 9, 0, 0, 0, 0, 0};
        for (int i = 0; i < 14; i++) {
            Due.is("count " + i, x.count(i), first[i]);
        }
        Due.law(x, "y:0");
        Due.tell(x, 1, "y:1", 1);
        Due.tell(x, 2, "1", 1);
        Due.tell(x, 2, "2", 2);
        x.hold(1);
        x.wobble(6);
        x.day();
        x.day();
        x.shut(3);
        x.shut(1);
        for (int i = 0; i < 5; i++) {
            x.seen(0, i, false);
        }
        Due.tape(x, "1234567");
        int[] due = {4, 2, 3, 7, 0, 1, 2, 8, 9, 6, 5, 10, 2, 4};
        for (int i = 0; i < 14; i++) {
            Due.is("count " + i, x.count(i), due[i]);
        }
    }
}
