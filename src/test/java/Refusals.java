import java.util.ArrayList;
import java.util.List;
import java.util.function.Supplier;

/**
 * What the promises refuse, word by word. Each refused call is made on one of two objects that were used alike; then
 * both are asked for all they tell, acts are undone and images brought back: they must answer alike.
 */
final class Refusals {
    private static final int NONE = -1;
    private static final int HIDDEN = -1000000;
    private static final int MIN = Integer.MIN_VALUE;
    private static final int MAX = Integer.MAX_VALUE;
    /** Stands for a NoSuchElementException among the answers. */
    private static final long THROWN = -7777777;
    /** Three rooms are there. */
    private static final int[] NO_ROOMS = {-1, 3, 7, 8, MIN, MAX};

    private Refusals() {
    }

    private interface Call {
        long on(TeaTrolley x);
    }

    static void run() {
        Doc.says(Doc.TERMS, "What is refused answers as told and changes nothing.");
        twinsAreAlike();
        tape();
        texts();
        told();
        whatHolds();
        dayAndDoor();
        wheelsAndMoves();
        fillAndDecades();
        undoAndLog();
        comesAndBest();
        shortestAndSeat();
        seenAndFits();
        secondAndAsk();
        crumbsAndShares();
        games();
        meetAndThaw();
        oddsAndSeason();
        allAndFloor();
        nearestAndHappy();
        images();
        counts();
    }

    // ---- objects ----

    private static TeaTrolley fresh() {
        return new TeaTrolley();
    }

    /** No office, but all else. */
    private static TeaTrolley homeless() {
        TeaTrolley x = new TeaTrolley();
        Due.law(x, "y:7");
        Due.hold(x, "021");
        x.wobble(3);
        Due.tape(x, "dx3;dx5;df1");
        return x;
    }

    /** Three rooms, something of everything, and an office on the tape. */
    private static TeaTrolley used() {
        TeaTrolley x = Due.office("sh70c2p2k6;dx2w3n60s2;df1x3w4n40;dx5w0n30", "021");
        Due.law(x, "y:n=1?9;y:m");
        Due.tell(x, 2, "71", 1);
        x.wobble(3);
        x.decades(2, 99);
        x.hold(0);
        x.shut(1);
        x.day();
        x.image();
        x.seen(0, 20, true);
        x.seen(1, 5, false);
        x.move(1, 2, 1);
        x.wheels(false);
        x.shut(2);
        Due.tape(x, "dx3;dx5;df1");
        return x;
    }

    /** All that has a limit is at it; the tape is this text and blanks behind it. */
    private static TeaTrolley full(String text) {
        TeaTrolley x = Due.office("sh99p5k60;dx2w9;df1x3w9;dx5w2", "021");
        for (int i = 0; i < 4; i++) {
            Due.tell(x, 1, "y:" + i, i);
        }
        for (int i = 1; i < 4; i++) {
            Due.tell(x, 2, "" + i, i);
        }
        x.law(2);
        x.wobble(9);
        x.fill(0, 98);
        x.day();
        x.image();
        for (int i = 0; i < 10; i++) {
            x.seen(i % 3, 400 + i, true);
        }
        x.shut(0);
        x.shut(1);
        x.shut(2);
        Due.tape(x, text + " ".repeat(240 - text.length()));
        return x;
    }

    private static TeaTrolley late() {
        return EdgeDays.lateOffice(0);
    }

    private static TeaTrolley almostLate() {
        return EdgeDays.lateOffice(3);
    }

    // ---- two objects alike ----

    private static void refused(String call, long due, Supplier<TeaTrolley> made, Call on) {
        TeaTrolley x = made.get();
        Due.is(call, on.on(x), due);
        List<Long> one = all(x);
        List<Long> other = all(made.get());
        int place = 0;
        while (place < one.size() && place < other.size() && one.get(place).equals(other.get(place))) {
            place++;
        }
        Due.is(call + " changes nothing (answer " + place + ")", place == one.size() && place == other.size(), true);
    }

    private static void noOffice(String call, long due, Call on) {
        refused(call + " without an office", due, Refusals::homeless, on);
        refused(call + " on a new object", due, Refusals::fresh, on);
    }

    /** What can be asked of an object, and what is undone and brought back; fewer than 400 calls. */
    private static List<Long> all(TeaTrolley x) {
        List<Long> answers = new ArrayList<>();
        state(x, answers);
        questions(x, answers);
        texts(x, answers);
        for (int i = 0; i < 4; i++) {
            answers.add((long) x.undo());
            state(x, answers);
        }
        answers.add((long) x.back());
        state(x, answers);
        for (int law = 0; law < x.count(1); law++) {
            x.law(law);
            answers.add((long) x.comes(0, 1));
        }
        for (int sort = 0; sort < 3; sort++) {
            answers.add((long) x.text(sort));
        }
        state(x, answers);
        return answers;
    }

    private static void state(TeaTrolley x, List<Long> answers) {
        for (int what = 0; what < 14; what++) {
            answers.add((long) x.count(what));
        }
        for (int what = 0; what < 4; what++) {
            answers.add((long) x.rule(what));
        }
        for (int room = 0; room < 3; room++) {
            answers.add(room(x, room, 2));
            answers.add(room(x, room, 5));
            answers.add(room(x, room, 6));
        }
        answers.add((long) x.log(0, 0));
        answers.add((long) x.log(0, 2));
        answers.add((long) x.log(1, 1));
    }

    private static void questions(TeaTrolley x, List<Long> answers) {
        for (int room = 0; room < 3; room++) {
            for (int what : new int[] {0, 1, 3, 4}) {
                answers.add(room(x, room, what));
            }
            answers.add((long) x.comes(room, 0));
            answers.add((long) x.comes(room, 1));
            answers.add((long) x.comes(room, 2));
            answers.add((long) x.odds(room, 37));
            answers.add((long) x.steps(room, 1));
        }
        for (int what = 0; what < 6; what++) {
            answers.add((long) x.all(what));
        }
        for (int what = 0; what < 2; what++) {
            answers.add((long) x.best(what));
            answers.add((long) x.shortest(1, what));
            answers.add((long) x.seat(what));
        }
        for (int i = -1; i < 3; i++) {
            answers.add((long) x.fits(i));
        }
        answers.add((long) x.ask(9));
    }

    private static void texts(TeaTrolley x, List<Long> answers) {
        for (int sort = 0; sort < 3; sort++) {
            answers.add((long) x.fault(sort));
        }
        for (int round = 0; round < 4; round++) {
            for (int i = 0; i < 4; i++) {
                answers.add((long) x.round(round, i));
            }
        }
    }

    private static long room(TeaTrolley x, int room, int what) {
        try {
            return x.room(room, what);
        } catch (java.util.NoSuchElementException e) {
            return THROWN;
        }
    }

    /** What is not refused must be seen, or nothing else here says anything. */
    private static void twinsAreAlike() {
        Due.is("two alike", all(used()).equals(all(used())), true);
        Call[] changes = {x -> x.end(3) ? 1 : 0, x -> x.feed(1, 0, 0, 0, 0), x -> x.text(0), x -> x.law(-1) ? 1 : 0,
            x -> x.hold(1) ? 1 : 0, x -> x.wobble(2) ? 1 : 0, x -> x.day(), x -> x.shut(0) ? 1 : 0, x -> x.wheels(true),
            x -> x.move(0, 1, 1), x -> x.fill(0, 50), x -> x.fill(1, 50), x -> x.decades(1, 1), x -> x.undo(),
            x -> x.seen(0, 999, true), x -> x.image(), x -> x.back()};
        for (int i = 0; i < changes.length; i++) {
            TeaTrolley x = used();
            changes[i].on(x);
            Due.is("change " + i + " is seen", all(x).equals(all(used())), false);
        }
    }

    // ---- promise by promise ----

    private static void tape() {
        Doc.says(2, "NONE: more than 240.");
        refused("feed of one more", NONE, () -> full("y:1"), x -> x.feed(0x31000000, 0, 0, 0, 0));
        refused("feed of one more, the last", NONE, () -> full("y:1"), x -> x.feed(0, 0, 0, 0, 1));
        refused("feed of 20 more", NONE, () -> full("y:1"), x -> x.feed(-1, -1, -1, -1, -1));
        Doc.says(3, "False: n.");
        for (int n : new int[] {-1, 12, MIN, MAX}) {
            refused("end " + n, 0, Refusals::used, x -> x.end(n) ? 1 : 0);
        }
        for (int n : new int[] {-1, 1}) {
            refused("end " + n + " of nothing", 0, Refusals::fresh, x -> x.end(n) ? 1 : 0);
        }
        refused("end 241", 0, () -> full("y:1"), x -> x.end(241) ? 1 : 0);
        Doc.says(4, "-2: no such sort.");
        for (int sort : new int[] {-1, 3, MIN, MAX}) {
            refused("fault " + sort, -2, Refusals::used, x -> x.fault(sort));
            refused("fault " + sort, -2, Refusals::fresh, x -> x.fault(sort));
        }
    }

    private static void texts() {
        Doc.says(5, "NONE: a FAULT,");
        refused("text 1 of an office", NONE, Refusals::used, x -> x.text(1));
        refused("text 2 of an office", NONE, Refusals::used, x -> x.text(2));
        refused("text 0 of a law", NONE, () -> full("y:1"), x -> x.text(0));
        for (int sort = 0; sort < 3; sort++) {
            int which = sort;
            refused("text " + sort + " of nothing", NONE, Refusals::fresh, x -> x.text(which));
        }
        refused("text 0 with a fault at its end", NONE, () -> full("d;dx2;"), x -> x.text(0));
        Doc.says(5, "no such sort,");
        for (int sort : new int[] {-1, 3, MIN, MAX}) {
            refused("text " + sort, NONE, Refusals::used, x -> x.text(sort));
        }
        Doc.says(5, "there are four.");
        refused("a fifth law", NONE, () -> full("y:1"), x -> x.text(1));
        refused("a fifth round", NONE, () -> full("0"), x -> x.text(2));
    }

    private static void told() {
        Doc.says(6, "NONE: no OFFICE,");
        noOffice("rule 0", NONE, x -> x.rule(0));
        noOffice("rule 3", NONE, x -> x.rule(3));
        Doc.says(6, "no such what.");
        for (int what : new int[] {-1, 4, MIN, MAX}) {
            refused("rule " + what, NONE, Refusals::used, x -> x.rule(what));
        }
        Doc.says(7, "NoSuchElementException: no such ones.");
        for (int room : NO_ROOMS) {
            refused("room " + room, THROWN, Refusals::used, x -> room(x, room, 0));
        }
        for (int what : new int[] {-1, 7, MIN, MAX}) {
            refused("room 0 what " + what, THROWN, Refusals::used, x -> room(x, 0, what));
        }
        for (int what = 0; what < 7; what++) {
            int which = what;
            noOffice("room 0 what " + what, THROWN, x -> room(x, 0, which));
        }
    }

    private static void whatHolds() {
        Doc.says(8, "False: no such one.");
        for (int law : new int[] {-2, 1, 4, MIN, MAX}) {
            refused("law " + law, 0, Refusals::used, x -> x.law(law) ? 1 : 0);
        }
        refused("law 0", 0, Refusals::fresh, x -> x.law(0) ? 1 : 0);
        refused("law 4", 0, () -> full("y:1"), x -> x.law(4) ? 1 : 0);
        Doc.says(9, "False: no such one.");
        for (int round : new int[] {-2, 2, 4, MIN, MAX}) {
            refused("hold " + round, 0, Refusals::used, x -> x.hold(round) ? 1 : 0);
        }
        refused("hold 0", 0, Refusals::fresh, x -> x.hold(0) ? 1 : 0);
        refused("hold 4", 0, () -> full("y:1"), x -> x.hold(4) ? 1 : 0);
        Doc.says(10, "HIDDEN: no such ROUND,");
        for (int round : new int[] {-1, 2, 4, MIN, MAX}) {
            refused("round " + round, HIDDEN, Refusals::used, x -> x.round(round, 0));
        }
        refused("round 0", HIDDEN, Refusals::fresh, x -> x.round(0, 0));
        refused("round 4", HIDDEN, () -> full("y:1"), x -> x.round(4, 0));
        Doc.says(10, "i 0 .. 7.");
        for (int i : new int[] {-1, 8, MIN, MAX}) {
            refused("round 0, i " + i, HIDDEN, Refusals::used, x -> x.round(0, i));
        }
        Doc.says(11, "False: out of bounds,");
        for (int v : new int[] {-1, 10, MIN, MAX}) {
            refused("wobble " + v, 0, Refusals::used, x -> x.wobble(v) ? 1 : 0);
        }
        Doc.says(11, "it is so.");
        refused("wobble 3", 0, Refusals::used, x -> x.wobble(3) ? 1 : 0);
        refused("wobble 9", 0, () -> full("y:1"), x -> x.wobble(9) ? 1 : 0);
        refused("wobble 0", 0, Refusals::fresh, x -> x.wobble(0) ? 1 : 0);
        Doc.says(12, "NONE: no such ROOMS.");
        for (int room : NO_ROOMS) {
            refused("steps 0 " + room, NONE, Refusals::used, x -> x.steps(0, room));
            refused("steps " + room + " 0", NONE, Refusals::used, x -> x.steps(room, 0));
            refused("steps " + room + " twice", NONE, Refusals::used, x -> x.steps(room, room));
        }
        noOffice("steps", NONE, x -> x.steps(0, 0));
    }

    private static void dayAndDoor() {
        Doc.says(13, "NONE: no OFFICE,");
        noOffice("day", NONE, x -> x.day());
        Doc.says(13, "beyond 9,999.");
        refused("day 10,000", NONE, Refusals::late, x -> x.day());
        Doc.says(14, "False: no such ROOM,");
        for (int room : NO_ROOMS) {
            refused("shut " + room, 0, Refusals::used, x -> x.shut(room) ? 1 : 0);
        }
        noOffice("shut 0", 0, x -> x.shut(0) ? 1 : 0);
        Doc.says(14, "it is.");
        refused("shut 2", 0, Refusals::used, x -> x.shut(2) ? 1 : 0);
        refused("shut 0", 0, () -> full("y:1"), x -> x.shut(0) ? 1 : 0);
    }

    private static void wheelsAndMoves() {
        Doc.says(15, "NONE: no OFFICE,");
        noOffice("wheels true", NONE, x -> x.wheels(true));
        noOffice("wheels false", NONE, x -> x.wheels(false));
        Doc.says(15, "it can't be.");
        refused("wheels at 5", NONE, () -> full("y:1"), x -> x.wheels(false));
        refused("wheels at 1", NONE, Refusals::late, x -> x.wheels(true));
        Doc.says(16, "NONE: no such ROOMS,");
        for (int room : NO_ROOMS) {
            refused("move to " + room, NONE, Refusals::used, x -> x.move(0, room, 1));
            refused("move from " + room, NONE, Refusals::used, x -> x.move(room, 0, 1));
        }
        noOffice("move", NONE, x -> x.move(0, 1, 1));
        Doc.says(16, "alike,");
        refused("move 0 0", NONE, Refusals::used, x -> x.move(0, 0, 1));
        refused("move 2 2", NONE, Refusals::used, x -> x.move(2, 2, 1));
        Doc.says(16, "out of bounds,");
        for (int n : new int[] {0, -1, 10, MIN, MAX}) {
            refused("move of " + n, NONE, Refusals::used, x -> x.move(0, 1, n));
        }
        Doc.says(16, "there are fewer,");
        refused("move 4 of 3", NONE, Refusals::used, x -> x.move(0, 2, 4));
        refused("move 2 of 1", NONE, Refusals::used, x -> x.move(2, 0, 2));
        Doc.says(16, "above nine.");
        refused("move to nine", NONE, () -> full("y:1"), x -> x.move(2, 0, 1));
        refused("move 8 to two", NONE, () -> full("y:1"), x -> x.move(0, 2, 8));
        refused("move 9 to two", NONE, () -> full("y:1"), x -> x.move(1, 2, 9));
    }

    private static void fillAndDecades() {
        Doc.says(17, "NONE: no OFFICE,");
        noOffice("fill 0", NONE, x -> x.fill(0, 50));
        noOffice("fill 1", NONE, x -> x.fill(1, 50));
        Doc.says(17, "no such what,");
        for (int what : new int[] {-1, 2, 3, MIN, MAX}) {
            refused("fill what " + what, NONE, Refusals::used, x -> x.fill(what, 50));
        }
        Doc.says(17, "out of bounds,");
        for (int v : new int[] {9, 100, 0, -1, MIN, MAX}) {
            refused("fill 0 " + v, NONE, Refusals::used, x -> x.fill(0, v));
        }
        for (int v : new int[] {0, 61, -1, MIN, MAX}) {
            refused("fill 1 " + v, NONE, Refusals::used, x -> x.fill(1, v));
        }
        Doc.says(17, "it is so.");
        refused("fill 0 70", NONE, Refusals::used, x -> x.fill(0, 70));
        refused("fill 1 6", NONE, Refusals::used, x -> x.fill(1, 6));
        refused("fill 0 98", NONE, () -> full("y:1"), x -> x.fill(0, 98));
        refused("fill 1 60", NONE, () -> full("y:1"), x -> x.fill(1, 60));
        Doc.says(18, "NONE: no OFFICE,");
        noOffice("decades", NONE, x -> x.decades(1, 5));
        Doc.says(18, "out of bounds,");
        for (int n : new int[] {0, -1, 61, MIN, MAX}) {
            refused("decades " + n, NONE, Refusals::used, x -> x.decades(n, 5));
        }
        Doc.says(18, "beyond 9,999.");
        refused("decades 1 on the last day", NONE, Refusals::late, x -> x.decades(1, 5));
        refused("decades 60 on the last day", NONE, Refusals::late, x -> x.decades(60, 5));
        refused("decades 4 with 3 days left", NONE, Refusals::almostLate, x -> x.decades(4, 5));
        refused("decades 60 with 3 days left", NONE, Refusals::almostLate, x -> x.decades(60, 5));
    }

    private static void undoAndLog() {
        Doc.says(19, "NONE: none.");
        noOffice("undo", NONE, x -> x.undo());
        refused("undo on day 0", NONE, () -> Due.office("d;dx2", "01"), x -> x.undo());
        refused("undo behind back", NONE, Refusals::broughtBack, x -> x.undo());
        refused("undo when all are undone", NONE, Refusals::allUndone, x -> x.undo());
        Doc.says(20, "NONE: no such ones.");
        noOffice("log 0", NONE, x -> x.log(0, 0));
        refused("log 0 on day 0", NONE, () -> Due.office("d;dx2", "01"), x -> x.log(0, 0));
        for (int i : new int[] {-1, 3, 60, MIN, MAX}) {
            refused("log " + i, NONE, Refusals::used, x -> x.log(i, 0));
        }
        refused("log 60 of many", NONE, Refusals::late, x -> x.log(60, 0));
        for (int what : new int[] {-1, 3, MIN, MAX}) {
            refused("log 0 what " + what, NONE, Refusals::used, x -> x.log(0, what));
        }
    }

    private static TeaTrolley broughtBack() {
        TeaTrolley x = used();
        Due.is("back", x.back(), 3);
        return x;
    }

    private static TeaTrolley allUndone() {
        TeaTrolley x = used();
        for (int i = 6; i >= 0; i--) {
            Due.is("undo", x.undo(), i);
        }
        return x;
    }

    private static void comesAndBest() {
        Doc.says(21, "NONE: it does not come,");
        for (int what = 0; what < 3; what++) {
            int which = what;
            refused("comes to a shut door", NONE, Refusals::used, x -> x.comes(2, which));
            refused("comes by no round", NONE, () -> Due.office("d;dx2"), x -> x.comes(0, which));
            refused("comes where it is not told", NONE, () -> Due.office("d;dx2", "1"), x -> x.comes(0, which));
        }
        Doc.says(21, "no such ROOM,");
        for (int room : NO_ROOMS) {
            refused("comes " + room, NONE, Refusals::used, x -> x.comes(room, 0));
        }
        noOffice("comes", NONE, x -> x.comes(0, 0));
        Doc.says(21, "no such what.");
        for (int what : new int[] {-1, 3, MIN, MAX}) {
            refused("comes what " + what, NONE, Refusals::used, x -> x.comes(0, what));
        }
        Doc.says(22, "NONE: no OFFICE,");
        noOffice("best 0", NONE, x -> x.best(0));
        noOffice("best 1", NONE, x -> x.best(1));
        Doc.says(22, "no such what.");
        for (int what : new int[] {-1, 2, MIN, MAX}) {
            refused("best " + what, NONE, Refusals::used, x -> x.best(what));
        }
    }

    private static void shortestAndSeat() {
        Doc.says(23, "NONE: there is none,");
        for (int what = 0; what < 2; what++) {
            int which = what;
            refused("shortest of cold rooms", NONE, () -> Due.office("sh10;dx3;dx2n9"), x -> x.shortest(3, which));
            refused("shortest without cups", NONE, () -> Due.office("sk1;dx3;dx2"), x -> x.shortest(1, which));
        }
        Doc.says(23, "no such set,");
        for (int set : new int[] {0, 8, 9, 256, -1, MIN, MAX}) {
            refused("shortest " + set, NONE, Refusals::used, x -> x.shortest(set, 0));
            refused("shortest " + set, NONE, Refusals::used, x -> x.shortest(set, 1));
        }
        noOffice("shortest 1", NONE, x -> x.shortest(1, 0));
        noOffice("shortest 0", NONE, x -> x.shortest(0, 0));
        Doc.says(23, "no such what.");
        for (int what : new int[] {-1, 2, MIN, MAX}) {
            refused("shortest what " + what, NONE, () -> Due.office("d;dx2"), x -> x.shortest(1, what));
        }
        Doc.says(24, "NONE: there is none,");
        for (int what = 0; what < 2; what++) {
            int which = what;
            refused("seat: no worker", NONE, () -> Due.office("dw0;dx2w0", "01"), x -> x.seat(which));
            refused("seat: nine in all rooms", NONE, () -> Due.office("dw9;dx2w9", "01"), x -> x.seat(which));
        }
        Doc.says(24, "no OFFICE,");
        noOffice("seat 0", NONE, x -> x.seat(0));
        noOffice("seat 1", NONE, x -> x.seat(1));
        Doc.says(24, "no such what.");
        for (int what : new int[] {-1, 2, MIN, MAX}) {
            refused("seat " + what, NONE, Refusals::used, x -> x.seat(what));
        }
    }

    private static void seenAndFits() {
        Doc.says(25, "NONE: no such ROOM,");
        for (int room : NO_ROOMS) {
            refused("seen " + room, NONE, Refusals::used, x -> x.seen(room, 5, true));
        }
        noOffice("seen", NONE, x -> x.seen(0, 5, true));
        Doc.says(25, "out of bounds,");
        for (int t : new int[] {-1, 1000, MIN, MAX}) {
            refused("seen by " + t, NONE, Refusals::used, x -> x.seen(0, t, true));
            refused("not seen by " + t, NONE, Refusals::used, x -> x.seen(0, t, false));
        }
        Doc.says(25, "there are ten.");
        refused("seen an eleventh time", NONE, () -> full("y:1"), x -> x.seen(0, 0, true));
        refused("not seen an eleventh time", NONE, () -> full("y:1"), x -> x.seen(0, 999, false));
        Doc.says(26, "NONE: no such one,");
        for (int i : new int[] {-2, 6, MIN, MAX}) {
            refused("fits " + i, NONE, Refusals::used, x -> x.fits(i));
        }
        refused("fits behind the last one", NONE, Refusals::used, x -> x.fits(x.fits(-1)));
        refused("fits 0, but nothing does", NONE, Refusals::nothingFits, x -> x.fits(0));
        Doc.says(26, "no OFFICE.");
        noOffice("fits -1", NONE, x -> x.fits(-1));
        noOffice("fits 0", NONE, x -> x.fits(0));
    }

    private static TeaTrolley nothingFits() {
        TeaTrolley x = used();
        Due.is("seen", x.seen(2, 0, true), 3);
        Due.is("fits", x.fits(-1), 0);
        return x;
    }

    private static void secondAndAsk() {
        Doc.says(27, "NONE: no OFFICE.");
        noOffice("second", NONE, x -> x.second());
        Doc.says(28, "NONE: nothing fits,");
        refused("ask, but nothing fits", NONE, Refusals::nothingFits, x -> x.ask(5));
        Doc.says(28, "no OFFICE,");
        noOffice("ask", NONE, x -> x.ask(5));
        Doc.says(28, "out of bounds.");
        for (int t : new int[] {-1, 1000, MIN, MAX}) {
            refused("ask " + t, NONE, Refusals::used, x -> x.ask(t));
        }
    }

    private static void crumbsAndShares() {
        Doc.says(29, "NONE: no such one,");
        // 3 and 3 cups, none behind the door of 2: no room or 2 alone
        for (int i : new int[] {-2, 2, MIN, MAX}) {
            refused("crumbs 6 " + i, NONE, Refusals::used, x -> x.crumbs(6, i));
        }
        refused("crumbs 7 0", NONE, Refusals::used, x -> x.crumbs(7, 0));
        refused("crumbs 200 0", NONE, Refusals::used, x -> x.crumbs(200, 0));
        Doc.says(29, "no OFFICE,");
        noOffice("crumbs 0 -1", NONE, x -> x.crumbs(0, -1));
        noOffice("crumbs 0 0", NONE, x -> x.crumbs(0, 0));
        Doc.says(29, "out of bounds.");
        for (int e : new int[] {-1, 201, MIN, MAX}) {
            refused("crumbs " + e, NONE, Refusals::used, x -> x.crumbs(e, -1));
        }
        Doc.says(30, "NONE: no such ROOM,");
        for (int room : NO_ROOMS) {
            refused("shares " + room, NONE, Refusals::used, x -> x.shares(room, 5));
        }
        noOffice("shares", NONE, x -> x.shares(0, 5));
        Doc.says(30, "out of bounds.");
        for (int c : new int[] {-1, 1000, MIN, MAX}) {
            refused("shares of " + c, NONE, Refusals::used, x -> x.shares(0, c));
        }
    }

    private static void games() {
        Doc.says(31, "HIDDEN: no such ones,");
        for (int room : NO_ROOMS) {
            refused("game " + room + " 0", HIDDEN, Refusals::used, x -> x.game(room, 0, 0, 0, 0));
            refused("game 0 " + room, HIDDEN, Refusals::used, x -> x.game(0, room, 0, 0, 0));
        }
        noOffice("game", HIDDEN, x -> x.game(0, 1, 0, 0, 0));
        for (int what : new int[] {-1, 2, MIN, MAX}) {
            refused("game what " + what, HIDDEN, Refusals::used, x -> x.game(0, 1, 0, 0, what));
        }
        Doc.says(31, "alike,");
        for (int room = 0; room < 3; room++) {
            int which = room;
            refused("game of one room", HIDDEN, Refusals::used, x -> x.game(which, which, 0, 0, 0));
        }
        Doc.says(31, "out of bounds.");
        for (int v : new int[] {-1, 2, MIN, MAX}) {
            refused("game x " + v, HIDDEN, Refusals::used, x -> x.game(0, 1, v, 0, 0));
            refused("game y " + v, HIDDEN, Refusals::used, x -> x.game(0, 1, 0, v, 0));
        }
        Doc.says(32, "NONE: no such one,");
        for (int i : new int[] {-2, 3, 4, MIN, MAX}) {
            refused("rests " + i, NONE, Refusals::used, x -> x.rests(0, 1, i));
        }
        Doc.says(32, "as for GAME.");
        for (int room : NO_ROOMS) {
            refused("rests " + room + " 0", NONE, Refusals::used, x -> x.rests(room, 0, -1));
            refused("rests 0 " + room, NONE, Refusals::used, x -> x.rests(0, room, 0));
        }
        refused("rests alike", NONE, Refusals::used, x -> x.rests(1, 1, -1));
        refused("rests alike", NONE, Refusals::used, x -> x.rests(1, 1, 0));
        noOffice("rests", NONE, x -> x.rests(0, 1, -1));
    }

    private static void meetAndThaw() {
        Doc.says(33, "NONE: none,");
        for (int what = 0; what < 2; what++) {
            int which = what;
            refused("meet too late", NONE, () -> Due.office("dx3;df1x9", "0"), x -> x.meet(1, which));
            refused("meet by no round", NONE, () -> Due.office("dx3;df1x9"), x -> x.meet(0, which));
        }
        Doc.says(33, "no such ROOM,");
        for (int room : NO_ROOMS) {
            refused("meet " + room, NONE, Refusals::used, x -> x.meet(room, 0));
        }
        noOffice("meet", NONE, x -> x.meet(0, 0));
        Doc.says(33, "no such what.");
        for (int what : new int[] {-1, 2, MIN, MAX}) {
            refused("meet what " + what, NONE, Refusals::used, x -> x.meet(0, what));
        }
        Doc.says(34, "NONE: not with 99,");
        refused("thaw not with 99", NONE, () -> Due.office("dx1n99;df1", "0"), x -> x.thaw(0));
        Doc.says(34, "it does not come,");
        refused("thaw behind a shut door", NONE, Refusals::used, x -> x.thaw(2));
        refused("thaw where it is not told", NONE, () -> Due.office("dn0;df1n0", "0"), x -> x.thaw(1));
        refused("thaw by no round", NONE, () -> Due.office("dn0;df1n0"), x -> x.thaw(1));
        Doc.says(34, "no such ROOM.");
        for (int room : NO_ROOMS) {
            refused("thaw " + room, NONE, Refusals::used, x -> x.thaw(room));
        }
        noOffice("thaw", NONE, x -> x.thaw(0));
    }

    private static void oddsAndSeason() {
        Doc.says(35, "NONE: no such ROOM,");
        for (int room : NO_ROOMS) {
            refused("odds " + room, NONE, Refusals::used, x -> x.odds(room, 50));
        }
        noOffice("odds", NONE, x -> x.odds(0, 50));
        Doc.says(35, "out of bounds.");
        for (int chance : new int[] {-1, 101, MIN, MAX}) {
            refused("odds by " + chance, NONE, Refusals::used, x -> x.odds(0, chance));
        }
        Doc.says(36, "NONE: no such ROOM.");
        for (int room : NO_ROOMS) {
            refused("season " + room, NONE, Refusals::used, x -> x.season(room));
        }
        noOffice("season", NONE, x -> x.season(0));
    }

    private static void allAndFloor() {
        Doc.says(37, "NONE: no OFFICE,");
        for (int what = 0; what < 6; what++) {
            int which = what;
            noOffice("all " + what, NONE, x -> x.all(which));
        }
        Doc.says(37, "no such what.");
        for (int what : new int[] {-1, 6, MIN, MAX}) {
            refused("all " + what, NONE, Refusals::used, x -> x.all(what));
        }
        Doc.says(38, "NONE: no OFFICE,");
        noOffice("floor 0", NONE, x -> x.floor(0));
        Doc.says(38, "no such FLOOR.");
        for (int floor : new int[] {-1, 4, MIN, MAX}) {
            refused("floor " + floor, NONE, Refusals::used, x -> x.floor(floor));
        }
    }

    private static void nearestAndHappy() {
        Doc.says(39, "NONE: no such ROOM.");
        for (int room : NO_ROOMS) {
            refused("nearest " + room, NONE, Refusals::used, x -> x.nearest(room));
        }
        noOffice("nearest", NONE, x -> x.nearest(0));
        Doc.says(40, "NONE: no such ROUND,");
        for (int round : new int[] {-1, 2, 4, MIN, MAX}) {
            refused("happy " + round, NONE, Refusals::used, x -> x.happy(round));
        }
        refused("happy 4", NONE, () -> full("y:1"), x -> x.happy(4));
        Doc.says(40, "no OFFICE.");
        noOffice("happy", NONE, x -> x.happy(0));
    }

    private static void images() {
        Doc.says(41, "NONE: no OFFICE.");
        noOffice("image", NONE, x -> x.image());
        Doc.says(42, "NONE: no IMAGE of this OFFICE.");
        noOffice("back", NONE, x -> x.back());
        refused("back without an image", NONE, Refusals::late, x -> x.back());
        refused("back to another office", NONE, Refusals::anotherOffice, x -> x.back());
    }

    private static TeaTrolley anotherOffice() {
        TeaTrolley x = used();
        Due.is("the office on the tape", x.text(0), 3);
        x.day();
        return x;
    }

    private static void counts() {
        Doc.says(43, "HIDDEN for others.");
        for (int what : new int[] {-1, 14, 15, MIN, MAX}) {
            refused("count " + what, HIDDEN, Refusals::used, x -> x.count(what));
            refused("count " + what, HIDDEN, Refusals::fresh, x -> x.count(what));
        }
    }
}
