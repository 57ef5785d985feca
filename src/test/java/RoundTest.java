/** Promises 21, 24, 29 to 37 and 40: the round that holds, as it is now. */
public final class RoundTest {
    /** By 0213: tea 3, 2, 4, 0; heat 62, 50, 6, 0; at 4, 12, 35, 52. */
    private static final String OFFICE = "sh70c2p2k9;dx2w3n60s2;df1x3w4n40s3;dx5w2n30;df2x1w0n0s0";

    public static void main(String[] args) {
        comes();
        seat();
        crumbs();
        shares();
        game();
        meet();
        thaw();
        odds();
        oddsCut();
        season();
        all();
        happy();
        Due.close("RoundTest");
    }

    private static TeaTrolley office() {
        return Due.office(OFFICE, "0213");
    }

    private static void comes() {
        TeaTrolley x = office();
        int[][] due = {{4, 62, 3}, {35, 6, 4}, {12, 50, 2}, {52, 0, 0}};
        for (int r = 0; r < 4; r++) {
            for (int w = 0; w < 3; w++) {
                Due.is("comes " + r + " " + w, x.comes(r, w), due[r][w]);
            }
            Due.is("no such what", x.comes(r, 3), -1);
            Due.is("no such what", x.comes(r, -1), -1);
        }
        Due.is("no such room", x.comes(4, 0), -1);
        Due.is("no such room", x.comes(-1, 0), -1);
        x.fill(1, 4);
        Due.is("what is left", x.comes(2, 2), 1);
        Due.is("nothing is left", x.comes(1, 2), 0);
        Due.is("it comes though", x.comes(1, 0), 35);
        Due.tell(x, 2, "7351", 1);
        x.hold(1);
        Due.is("not there: passed over", x.comes(3, 0), 14);
        Due.is("behind it", x.comes(1, 0), 28);
        Due.is("not told", x.comes(0, 0), -1);
    }

    private static void seat() {
        TeaTrolley x = office();
        Due.is("the two", x.seat(0), 10);
        Due.is("how many", x.seat(1), 6);
        Due.is("no such what", x.seat(2), -1);
        Due.is("no such what", x.seat(-1), -1);
        Due.is("nothing moved", x.room(1, 2), 4);
        Due.is("no act", x.count(13), 0);
        x.shut(0);
        // to 2 first (50) and then to 1 (6) and 3 (0): one more at 2 or at 3
        Due.is("with its door shut", x.seat(0), 2);
        Due.is("how many", x.seat(1), 3);
        x.hold(-1);
        Due.is("no round: the least", x.seat(0), 1);
        Due.is("none hot", x.seat(1), 0);
        TeaTrolley empty = Due.office("dw0;dx2w0", "01");
        Due.is("no worker", empty.seat(0), -1);
        Due.is("no worker", empty.seat(1), -1);
        TeaTrolley full = Due.office("dw9;dx2w9", "01");
        Due.is("no place", full.seat(0), -1);
        Due.is("no place", full.seat(1), -1);
        TeaTrolley one = Due.office("dw9;dx2w1", "01");
        Due.is("only from the first", one.seat(0), 1);
        Due.is("all", one.seat(1), 10);
        Due.is("no office", new TeaTrolley().seat(0), -1);
    }

    private static void crumbs() {
        TeaTrolley x = office();
        int[][] due = {{9, 0}, {12, 1}, {13, 2}, {16, 3}, {11, 4}, {14, 5}, {15, 6}, {18, 7}};
        for (int[] d : due) {
            Due.is("how many " + d[0], x.crumbs(d[0], -1), 1);
            Due.is("which " + d[0], x.crumbs(d[0], 0), d[1]);
            Due.is("no more", x.crumbs(d[0], 1), -1);
        }
        Due.is("none", x.crumbs(8, -1), 0);
        Due.is("none", x.crumbs(8, 0), -1);
        Due.is("none", x.crumbs(0, -1), 0);
        Due.is("200", x.crumbs(200, -1), 0);
        Due.is("201", x.crumbs(201, -1), -1);
        Due.is("-1", x.crumbs(-1, -1), -1);
        Due.is("i -2", x.crumbs(9, -2), -1);
        // 3 and 1 cups; 1 has workers and no cup, 3 has no workers
        x.fill(1, 4);
        Due.is("with and without 1", x.crumbs(4, -1), 2);
        Due.is("without", x.crumbs(4, 0), 0);
        Due.is("with", x.crumbs(4, 1), 2);
        Due.is("rising", x.crumbs(8, 0), 5);
        Due.is("rising", x.crumbs(8, 1), 7);
        x.hold(-1);
        Due.is("no round", x.crumbs(0, -1), 8);
        Due.is("the last", x.crumbs(0, 7), 7);
        Due.is("no office", new TeaTrolley().crumbs(0, -1), -1);
        TeaTrolley two = Due.office("dw0;dx2w3;dx5w3", "012");
        Due.is("all that have workers", two.crumbs(12, 0), 6);
        Due.is("alike", two.crumbs(9, -1), 2);
        Due.is("rising", two.crumbs(9, 0), 2);
        Due.is("rising", two.crumbs(9, 1), 4);
        two.move(1, 0, 1);
        Due.is("all", two.crumbs(12, 0), 7);
    }

    private static void shares() {
        TeaTrolley x = office();
        int[] due = {33, 44, 22, 0};
        for (int r = 0; r < 4; r++) {
            Due.is("share of " + r, x.shares(r, 100), due[r]);
        }
        Due.is("of 0", x.shares(1, 0), 0);
        Due.is("of 999", x.shares(1, 999), 444);
        Due.is("of 1000", x.shares(1, 1000), -1);
        Due.is("of -1", x.shares(1, -1), -1);
        Due.is("no such room", x.shares(4, 1), -1);
        Due.is("no such room", x.shares(-1, 1), -1);
        x.shut(1);
        Due.is("shut", x.shares(1, 100), 0);
        Due.is("of 5 cups", x.shares(0, 100), 60);
        x.hold(-1);
        Due.is("no cups", x.shares(0, 100), 0);
    }

    private static void game() {
        TeaTrolley x = office();
        // heat 62 and 50: 6 and 5; x, y, first, second
        int[][] due = {{0, 0, 6, 5}, {1, 0, 8, 4}, {0, 1, 5, 7}, {1, 1, 5, 4}};
        for (int[] d : due) {
            Due.is("first", x.game(0, 2, d[0], d[1], 0), d[2]);
            Due.is("second", x.game(0, 2, d[0], d[1], 1), d[3]);
        }
        Due.is("below nothing", x.game(0, 3, 1, 0, 1), -1);
        x.shut(0);
        Due.is("it does not come: waits alone", x.game(0, 2, 0, 0, 0), 0);
        Due.is("it does not come: goes alone", x.game(0, 2, 1, 0, 0), 2);
        Due.is("it does not come: both", x.game(0, 2, 1, 1, 0), -1);
        int[][] wrong = {{0, 0, 0, 0, 0}, {0, 4, 0, 0, 0}, {-1, 0, 0, 0, 0}, {0, 1, 2, 0, 0}, {0, 1, -1, 0, 0},
            {0, 1, 0, 2, 0}, {0, 1, 0, -1, 0}, {0, 1, 0, 0, 2}, {0, 1, 0, 0, -1}};
        for (int[] w : wrong) {
            Due.is("refused", x.game(w[0], w[1], w[2], w[3], w[4]), -1000000);
        }
        Due.is("how many rest", x.rests(0, 2, -1), 3);
        int[] rests = {1, 10, 11};
        for (int i = 0; i < 3; i++) {
            Due.is("rest " + i, x.rests(0, 2, i), rests[i]);
        }
        Due.is("no such", x.rests(0, 2, 3), -1);
        Due.is("no such", x.rests(0, 2, -2), -1);
        Due.is("alike", x.rests(2, 2, -1), -1);
        Due.is("no such room", x.rests(0, 4, -1), -1);
        Due.is("no such room", x.rests(-1, 0, -1), -1);
    }

    private static void meet() {
        TeaTrolley x = office();
        Due.is("at home", x.meet(0, 0), 0);
        Due.is("heat", x.meet(0, 1), 62);
        Due.is("in time at 2", x.meet(1, 0), 2);
        Due.is("heat", x.meet(1, 1), 50);
        // 12 steps, and it comes at 12
        Due.is("just in time", x.meet(3, 0), 2);
        Due.is("no such what", x.meet(0, 2), -1);
        Due.is("no such what", x.meet(0, -1), -1);
        Due.is("no such room", x.meet(4, 0), -1);
        Due.is("no such room", x.meet(-1, 0), -1);
        x.wheels(true);
        Due.is("too late by a faster one", x.meet(3, 0), 1);
        x.shut(0);
        x.shut(1);
        x.shut(3);
        // only at 2, at minute 5
        Due.is("3 steps", x.meet(0, 0), 2);
        Due.is("11 steps", x.meet(1, 0), -1);
        Due.is("11 steps", x.meet(1, 1), -1);
        x.hold(-1);
        Due.is("nowhere", x.meet(0, 0), -1);
        TeaTrolley even = Due.office("sc0;dx3;dx2;dx1", "210");
        Due.is("of several the lowest", even.meet(1, 0), 0);
        Due.is("heat", even.meet(1, 1), 60);
    }

    private static void thaw() {
        TeaTrolley x = office();
        Due.is("60 and 8", x.thaw(0), 68);
        Due.is("30 and 20", x.thaw(2), 50);
        Due.is("not with 99", x.thaw(1), -1);
        Due.is("10 at least", x.thaw(3), 10);
        Due.is("no such room", x.thaw(4), -1);
        Due.is("no such room", x.thaw(-1), -1);
        x.shut(2);
        Due.is("does not come", x.thaw(2), -1);
        Due.is("nothing set", x.rule(0), 70);
        Due.tell(x, 1, "y:h>80?99;y:h/3*2", 0);
        x.law(0);
        // above 80 it is cold at once; up to it too, but for what a third leaves
        Due.is("not by this law", x.thaw(0), -1);
        Due.tell(x, 1, "y:h<50?9;y:h<97?99;y:0", 1);
        x.law(1);
        Due.is("only far up", x.thaw(0), 97);
        TeaTrolley y = Due.office("dn99x0;dx1n41", "01");
        Due.is("99 itself", y.thaw(0), 99);
        Due.tell(y, 1, "y:h<50?0;y:99", 0);
        y.law(0);
        Due.is("the least, though not with 99", y.thaw(1), 41);
    }

    private static void odds() {
        TeaTrolley x = office();
        Due.is("the first way", x.odds(0, 25), 750000);
        Due.is("never wobbles", x.odds(0, 0), 1000000);
        Due.is("always wobbles", x.odds(0, 100), 0);
        Due.is("hot in any case", x.odds(2, 25), 1000000);
        Due.is("cold in any case", x.odds(1, 25), 0);
        Due.is("wants nothing", x.odds(3, 25), 1000000);
        Due.is("101", x.odds(0, 101), -1);
        Due.is("-1", x.odds(0, -1), -1);
        Due.is("no such room", x.odds(4, 25), -1);
        Due.is("no such room", x.odds(-1, 25), -1);
        x.shut(0);
        Due.is("does not come", x.odds(0, 25), 0);
        Due.is("does not come", x.odds(0, 0), 0);
    }

    private static void oddsCut() {
        // heat 57 at the third room, 56 is wanted: one wobble at most
        TeaTrolley x = Due.office("dx1s0;dx2s0;dx3n56s0", "012");
        // none 950000, 902500, 857375; on one of the ways 45125 each
        Due.is("one wobble at most", x.odds(2, 5), 857375 + 3 * 45125);
        x.fill(0, 61);
        // on all: 330000, 108900, 35937
        Due.is("two at most", x.odds(2, 33), 1000000 - 35937);
        x.wheels(false);
        Due.is("slow: cold in any case", x.odds(2, 33), 0);
        // a way of no steps wobbles too, by PACE minutes
        TeaTrolley still = Due.office("sp3;dx0n58;dx5", "0");
        Due.is("wobbles on the spot", still.odds(0, 40), 600000);
        // no wobble at all: 990000, 980100, 970299, less 9702 and less 9605, as they are cut
        TeaTrolley cut = Due.office("sc9h99;dx0s0;dx1s0;dx2s0;dx3s0;dx4n63s0", "01234");
        Due.is("cut on each way", cut.odds(4, 1), 950992);
        byLaw();
    }

    private static void byLaw() {
        // cold by a wobble on the last way alone
        TeaTrolley x = Due.office("sp2;dx1;dx2;dx3", "012");
        Due.tell(x, 1, "y:n=2&m>2?99;y:m>2?1;y:0", 0);
        x.law(0);
        // 7 of 100 on each way: all that wobbles on the third way
        int cold = 0;
        int[] two = {70000 * 7 / 100, 70000 - 70000 * 7 / 100, 930000 * 7 / 100, 930000 - 930000 * 7 / 100};
        for (int part : two) {
            cold += part * 7 / 100;
        }
        Due.is("by the law", x.odds(2, 7), 1000000 - cold);
        Due.is("not on the ways ahead", x.odds(1, 7), 1000000);
        // 20 cups, 18 behind the first room, 16 behind the second one
        Due.tell(x, 1, "y:m>2&k=20?1;y:m>2&k=18?2;y:m>2&k=16?4;y:0", 1);
        x.law(1);
        int[][] heats = {{60, 93 * 93 * 93}, {59, 93 * 93 * 93 + 7 * 93 * 93},
            {58, 93 * 93 * 93 + 2 * 7 * 93 * 93}, {57, 93 * 93 * 93 + 2 * 7 * 93 * 93 + 7 * 7 * 93},
            {56, 93 * 93 * 93 + 3 * 7 * 93 * 93 + 7 * 7 * 93}, {55, 1000000 - 7 * 7 * 93 - 7 * 7 * 7},
            {54, 1000000 - 7 * 7 * 7}, {53, 1000000}};
        for (int[] h : heats) {
            TeaTrolley y = Due.office("sp2;dx1;dx2;dx3n" + h[0], "012");
            Due.tell(y, 1, "y:m>2&k=20?1;y:m>2&k=18?2;y:m>2&k=16?4;y:0", 0);
            y.law(0);
            Due.is("cups left on each way, " + h[0], y.odds(2, 7), h[1]);
        }
    }

    private static void season() {
        TeaTrolley x = Due.office("sh60c1;dx0;dx1;dx2;dx9", "0");
        int[][] due = {{60, 3}, {59, 2}, {40, 2}, {39, 1}, {20, 1}, {19, 0}, {10, 0}, {99, 3}, {80, 3}};
        for (int[] d : due) {
            x.fill(0, d[0]);
            Due.is("season by " + d[0], x.season(0), d[1]);
        }
        Due.is("does not come", x.season(1), 0);
        Due.is("no such room", x.season(4), -1);
        Due.is("no such room", x.season(-1), -1);
    }

    private static void all() {
        TeaTrolley x = office();
        int[] due = {0, 0, 52, 3, 0, 0};
        for (int i = 0; i < 6; i++) {
            Due.is("all " + i, x.all(i), due[i]);
        }
        Due.is("all 6", x.all(6), -1);
        Due.is("all -1", x.all(-1), -1);
        x.fill(1, 60);
        Due.is("spare", x.all(0), 51);
        x.shut(1);
        x.shut(3);
        Due.is("lack", x.all(1), 4);
        Due.is("lost", x.all(4), 10);
        Due.is("coldest", x.all(3), 2);
        Due.is("last", x.all(2), 13);
        x.hold(-1);
        Due.is("spare: all", x.all(0), 60);
        Due.is("lack: all", x.all(1), 9);
        Due.is("last: none", x.all(2), 0);
        Due.is("coldest: none", x.all(3), -1);
        Due.is("lost: all", x.all(4), 15);
        TeaTrolley even = Due.office("sc0;dx3;dx2;dx1", "210");
        Due.is("of several the lowest", even.all(3), 0);
        Due.is("no office", new TeaTrolley().all(2), -1);
    }

    private static void happy() {
        TeaTrolley x = office();
        Due.tell(x, 2, "71", 1);
        Due.is("the one that holds", x.happy(0), 5);
        Due.is("another one", x.happy(1), 4);
        x.shut(1);
        x.shut(0);
        Due.is("all doors open", x.happy(0), 5);
        Due.is("all doors open", x.happy(1), 4);
        Due.is("no such round", x.happy(2), -1);
        Due.is("no such round", x.happy(-1), -1);
        TeaTrolley none = new TeaTrolley();
        Due.tell(none, 2, "0", 0);
        Due.is("no office", none.happy(0), -1);
    }
}
