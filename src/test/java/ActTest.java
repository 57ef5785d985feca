/** Promises 13 to 20, 41 and 42: acts, decades, undo, the log, images. */
public final class ActTest {
    /** By 0213: tea 3, 2, 4, 0; heat 62, 50, 6, 0; at 4, 12, 35, 52. */
    private static final String OFFICE = "sh70c2p2k9;dx2w3n60s2;df1x3w4n40s3;dx5w2n30;df2x1w0n0s0";

    public static void main(String[] args) {
        days();
        frost();
        doors();
        wheels();
        moves();
        fills();
        undoing();
        undoneLog();
        decades();
        decadesWithoutRounds();
        lastDay();
        images();
        Due.close("ActTest");
    }

    private static void log(TeaTrolley x, int i, int tea, int hot, int minutes) {
        Due.is("log " + i + " tea", x.log(i, 0), tea);
        Due.is("log " + i + " hot", x.log(i, 1), hot);
        Due.is("log " + i + " minutes", x.log(i, 2), minutes);
    }

    private static void frosts(TeaTrolley x, int... due) {
        for (int r = 0; r < due.length; r++) {
            Due.is("frost " + r, x.room(r, 5), due[r]);
        }
    }

    private static void days() {
        TeaTrolley x = Due.office(OFFICE, "0213");
        Due.is("no log", x.log(0, 0), -1);
        Due.is("day", x.day(), 5);
        Due.is("works", x.count(7), 5);
        log(x, 0, 9, 5, 52);
        frosts(x, 0, 0, 0, 1);
        x.hold(-1);
        Due.is("by no round", x.day(), 0);
        log(x, 0, 0, 0, 0);
        log(x, 1, 9, 5, 52);
        frosts(x, 1, 1, 1, 2);
        Due.is("works", x.count(7), 5);
        Due.is("day", x.count(6), 2);
        Due.is("log", x.count(12), 2);
        Due.is("no such entry", x.log(2, 0), -1);
        Due.is("no such entry", x.log(-1, 0), -1);
        Due.is("no such what", x.log(0, 3), -1);
        Due.is("no such what", x.log(0, -1), -1);
        x.hold(0);
        x.fill(1, 4);
        Due.is("4 cups: 3 and 1", x.day(), 4);
        log(x, 0, 4, 4, 52);
        frosts(x, 0, 2, 0, 3);
        Due.is("ice", x.all(5), 8);
    }

    private static void frost() {
        TeaTrolley x = Due.office("d;dx2", "0");
        for (int i = 1; i <= 12; i++) {
            x.day();
            frosts(x, 0, Math.min(9, i));
            Due.is("ice from 3 on", x.all(5), i < 3 ? 0 : 2);
        }
        x.hold(-1);
        x.day();
        x.day();
        x.day();
        Due.is("ice all over", x.all(5), 3);
    }

    private static void doors() {
        TeaTrolley x = Due.office(OFFICE, "0213");
        Due.is("shut 4", x.shut(4), false);
        Due.is("shut -1", x.shut(-1), false);
        Due.is("shut 0", x.shut(0), true);
        Due.is("it is", x.shut(0), false);
        Due.is("shut 2", x.shut(2), true);
        Due.is("acts", x.count(13), 2);
        Due.is("does not come", x.comes(0, 0), -1);
        // from the lift to 1: 6 steps, 12 minutes
        Due.is("comes", x.comes(1, 0), 12);
        Due.is("heat", x.comes(1, 1), 46);
        Due.is("day", x.day(), 4);
        log(x, 0, 4, 4, 29);
        frosts(x, 1, 0, 1, 1);
        Due.is("open", x.count(11), 0);
        Due.is("again", x.shut(0), true);
    }

    private static void wheels() {
        TeaTrolley x = Due.office(OFFICE, "0213");
        Due.is("oiled", x.wheels(true), 1);
        Due.is("not below 1", x.wheels(true), -1);
        Due.is("no act", x.count(13), 1);
        for (int p = 2; p <= 5; p++) {
            Due.is("worn", x.wheels(false), p);
        }
        Due.is("not above 5", x.wheels(false), -1);
        Due.is("pace", x.rule(2), 5);
        Due.is("acts", x.count(13), 5);
        Due.is("slow", x.comes(0, 0), 10);
    }

    private static void moves() {
        TeaTrolley x = Due.office(OFFICE, "0213");
        Due.is("move", x.move(1, 3, 4), 4);
        Due.is("there are fewer", x.move(1, 3, 1), -1);
        Due.is("move", x.move(0, 3, 3), 7);
        Due.is("move", x.move(2, 3, 2), 9);
        Due.is("all are there", x.room(3, 2), 9);
        Due.is("none are here", x.room(0, 2), 0);
        int[][] wrong = {{3, 3, 1}, {3, 4, 1}, {4, 3, 1}, {-1, 3, 1}, {3, -1, 1}, {3, 0, 0}, {3, 0, -1}, {3, 0, 10}};
        for (int[] w : wrong) {
            Due.is("move refused", x.move(w[0], w[1], w[2]), -1);
        }
        Due.is("acts", x.count(13), 3);
        Due.is("nine at once", x.move(3, 1, 9), 9);
        TeaTrolley full = Due.office("dw8;dx2w2");
        Due.is("above nine", full.move(1, 0, 2), -1);
        Due.is("nine", full.move(1, 0, 1), 9);
        Due.is("above nine", full.move(1, 0, 1), -1);
    }

    private static void fills() {
        TeaTrolley x = Due.office(OFFICE, "0213");
        Due.is("heat was", x.fill(0, 99), 70);
        Due.is("it is so", x.fill(0, 99), -1);
        Due.is("heat was", x.fill(0, 10), 99);
        Due.is("9", x.fill(0, 9), -1);
        Due.is("100", x.fill(0, 100), -1);
        Due.is("cups were", x.fill(1, 60), 9);
        Due.is("it is so", x.fill(1, 60), -1);
        Due.is("cups were", x.fill(1, 1), 60);
        Due.is("0", x.fill(1, 0), -1);
        Due.is("61", x.fill(1, 61), -1);
        Due.is("no such what", x.fill(2, 20), -1);
        Due.is("no such what", x.fill(-1, 20), -1);
        Due.is("acts", x.count(13), 4);
        Due.is("heat", x.comes(0, 1), 2);
        Due.is("cups", x.comes(0, 2), 1);
    }

    private static void undoing() {
        TeaTrolley x = Due.office(OFFICE, "0213");
        Due.is("nothing", x.undo(), -1);
        x.shut(1);
        x.day();
        x.wheels(true);
        x.move(0, 1, 2);
        x.fill(0, 44);
        x.fill(1, 33);
        x.hold(-1);
        x.wobble(3);
        x.seen(0, 1, true);
        Due.is("undo cups", x.undo(), 5);
        Due.is("cups", x.rule(3), 9);
        Due.is("undo heat", x.undo(), 4);
        Due.is("heat", x.rule(0), 70);
        Due.is("undo move", x.undo(), 3);
        Due.is("workers", x.room(0, 2), 3);
        Due.is("workers", x.room(1, 2), 4);
        Due.is("undo wheels", x.undo(), 2);
        Due.is("pace", x.rule(2), 2);
        Due.is("undo day", x.undo(), 1);
        Due.is("day", x.count(6), 0);
        Due.is("works", x.count(7), 0);
        Due.is("log", x.count(12), 0);
        Due.is("log", x.log(0, 0), -1);
        Due.is("door shut again", x.count(11), 2);
        frosts(x, 0, 0, 0, 0);
        Due.is("undo shut", x.undo(), 0);
        Due.is("doors", x.count(11), 0);
        Due.is("nothing more", x.undo(), -1);
        Due.is("hold is no act", x.count(5), -1);
        Due.is("wobble is no act", x.count(9), 3);
        Due.is("seen is no act", x.count(10), 1);
        for (int i = 0; i < 50; i++) {
            x.wheels(i % 2 == 0);
            Due.is("40 at most", x.count(13), Math.min(40, i + 1));
        }
        for (int i = 39; i >= 0; i--) {
            Due.is("undo", x.undo(), i);
        }
        Due.is("no more", x.undo(), -1);
    }

    private static void undoneLog() {
        TeaTrolley x = Due.office(OFFICE, "0213");
        x.wobble(5);
        Due.is("decades", x.decades(60, 77), 60);
        int[][] was = new int[60][3];
        for (int i = 0; i < 60; i++) {
            for (int w = 0; w < 3; w++) {
                was[i][w] = x.log(i, w);
            }
        }
        Due.is("60 entries", x.count(12), 60);
        Due.is("not 61", x.log(60, 0), -1);
        Due.is("40 acts", x.count(13), 40);
        for (int i = 0; i < 40; i++) {
            x.day();
        }
        Due.is("still 60", x.count(12), 60);
        log(x, 40, was[0][0], was[0][1], was[0][2]);
        log(x, 59, was[19][0], was[19][1], was[19][2]);
        for (int i = 39; i >= 0; i--) {
            Due.is("undo", x.undo(), i);
        }
        Due.is("day", x.count(6), 60);
        Due.is("60 entries", x.count(12), 60);
        for (int i = 0; i < 60; i++) {
            log(x, i, was[i][0], was[i][1], was[i][2]);
        }
    }

    private static void decades() {
        TeaTrolley x = Due.office(OFFICE, "0213");
        Due.tell(x, 2, "0", 1);
        x.wobble(4);
        // draws of 10, 4 and 2: 4 3 0, 1 0 0, 3 2 0, 3 3 1
        Due.is("decades", x.decades(4, 12345), 4);
        log(x, 3, 9, 5, 22);
        log(x, 2, 6, 2, 50);
        log(x, 1, 7, 0, 56);
        log(x, 0, 3, 0, 10);
        frosts(x, 0, 1, 2, 4);
        Due.is("works", x.count(7), 7);
        Due.is("pace", x.rule(2), 4);
        Due.is("round 1 holds", x.count(5), 1);
        Due.is("doors", x.count(11), 0);
        Due.is("an act a day", x.count(13), 4);
        Due.is("undo", x.undo(), 3);
        Due.is("pace", x.rule(2), 3);
        Due.is("doors as they were", x.count(11), 0);
        Due.is("the round is not undone", x.count(5), 1);
        frosts(x, 0, 0, 1, 3);
        int[] wrong = {0, -1, 61, Integer.MAX_VALUE, Integer.MIN_VALUE};
        for (int n : wrong) {
            Due.is("decades " + n, x.decades(n, 1), -1);
        }
        Due.is("60", x.decades(60, Long.MIN_VALUE), 63);
    }

    private static void decadesWithoutRounds() {
        TeaTrolley x = Due.office("sp4;dx2w3n60s2;df1x3w4n40s3;dx5w2n30;df2x1w0n0s0");
        x.wobble(6);
        // draws of 10 and 4 by seed -5: 0 3, 9 3, 5 3, 6 1: slower, faster, slower, faster
        int[] paces = {5, 4, 5, 4};
        for (int n = 1; n <= 4; n++) {
            Due.is("decades", x.decades(n, -5), n);
            Due.is("pace behind " + n, x.rule(2), paces[n - 1]);
            Due.is("none holds", x.count(5), -1);
            for (int i = 0; i < n; i++) {
                x.undo();
            }
        }
        Due.tell(x, 2, "0", 0);
        Due.is("none holds so far", x.count(5), -1);
        x.decades(1, -5);
        Due.is("the one there is", x.count(5), 0);
        x.undo();
        // all draws are below 10 and none is below 0: PACE stays within its bounds
        x.wobble(0);
        x.decades(9, 1);
        Due.is("1 at least", x.rule(2), 1);
        x.shut(0);
        Due.is("a shut door that is drawn", x.decades(1, 0), 10);
        x.undo();
        Due.is("is shut again", x.count(11), 1);
    }

    private static void lastDay() {
        TeaTrolley x = Due.office("d;dx2", "0");
        for (int i = 1; i <= 166; i++) {
            x.decades(60, i);
        }
        Due.is("day", x.count(6), 9960);
        Due.is("beyond", x.decades(40, 1), -1);
        Due.is("day", x.count(6), 9960);
        Due.is("up to it", x.decades(39, 1), 9999);
        Due.is("beyond", x.day(), -1);
        Due.is("beyond", x.decades(1, 1), -1);
        Due.is("day", x.count(6), 9999);
        Due.is("log", x.log(59, 0) >= 0, true);
        Due.is("undo", x.undo(), 39);
        Due.is("one more", x.day() >= 0, true);
        Due.is("day", x.count(6), 9999);
        Due.is("no act", x.count(13), 40);
    }

    private static void images() {
        TeaTrolley x = Due.office(OFFICE, "0213");
        Due.is("none", x.back(), -1);
        x.day();
        x.shut(2);
        x.wheels(false);
        Due.is("image", x.image(), 1);
        Due.is("an image is no act", x.count(13), 3);
        x.fill(0, 20);
        x.fill(1, 20);
        x.move(0, 3, 1);
        x.hold(-1);
        x.day();
        x.day();
        Due.is("back", x.back(), 1);
        Due.is("no undo", x.undo(), -1);
        Due.is("acts", x.count(13), 0);
        int[] rules = {70, 2, 3, 9};
        for (int i = 0; i < 4; i++) {
            Due.is("rule " + i, x.rule(i), rules[i]);
        }
        Due.is("works", x.count(7), 5);
        Due.is("doors", x.count(11), 4);
        Due.is("workers", x.room(0, 2), 3);
        Due.is("workers", x.room(3, 2), 0);
        frosts(x, 0, 0, 0, 1);
        Due.is("log", x.count(12), 1);
        log(x, 0, 9, 5, 52);
        Due.is("which holds is not kept", x.count(5), -1);
        x.day();
        Due.is("back again", x.back(), 1);
        x.day();
        Due.is("instead of the one ahead", x.image(), 2);
        x.day();
        Due.is("back", x.back(), 2);
        imageLog();
    }

    private static void imageLog() {
        TeaTrolley x = Due.office(OFFICE, "0213");
        x.decades(60, 5);
        x.decades(17, 6);
        int[] was = new int[60];
        for (int i = 0; i < 60; i++) {
            was[i] = x.log(i, 2);
        }
        x.image();
        x.decades(60, 7);
        x.decades(60, 8);
        Due.is("back", x.back(), 77);
        for (int i = 0; i < 60; i++) {
            Due.is("log " + i, x.log(i, 2), was[i]);
        }
    }
}
