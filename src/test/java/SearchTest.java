/** Promises 22, 23 and 25 to 28: rows of rooms. */
public final class SearchTest {
    private static final String OFFICE = "sh70c2p2k9;dx2w3n60s2;df1x3w4n40s3;dx5w2n30;df2x1w0n0s0";

    public static void main(String[] args) {
        best();
        bestAsItIsNow();
        byLaw();
        shortest();
        seen();
        fits();
        ask();
        eightRooms();
        Due.close("SearchTest");
    }

    private static void best() {
        TeaTrolley x = Due.office("sh40c5;dx4w5n20;dx1w3n30");
        Due.is("the near one first", x.best(0), 10);
        Due.is("how many", x.best(1), 8);
        TeaTrolley tie = Due.office("sh30c1k4;dx1w2n10;dx9w4n20");
        Due.is("of several the least", tie.best(0), 1);
        Due.is("how many", tie.best(1), 4);
        TeaTrolley cold = Due.office("sh10c9;dx9w4n99;df1x9w9n90;df2");
        Due.is("none hot: the least", cold.best(0), 12);
        Due.is("none", cold.best(1), 0);
        // behind rooms that leave it without heat, those that want none are hot
        TeaTrolley zero = Due.office("sh10c9;dx9w4n1;df1x9w9n0;df2n0");
        Due.is("cold at 0 in any case", zero.best(0), 12);
        Due.is("those that want no heat", zero.best(1), 11);
        Due.is("no such what", x.best(2), -1);
        Due.is("no such what", x.best(-1), -1);
        Due.is("no office", new TeaTrolley().best(0), -1);
    }

    private static void bestAsItIsNow() {
        TeaTrolley x = Due.office("sh40c5;dx4w5n20;dx1w3n30");
        Due.is("how many", x.best(1), 8);
        x.shut(0);
        Due.is("all doors open", x.best(1), 8);
        x.fill(1, 4);
        Due.is("four cups", x.best(1), 4);
        Due.is("the least", x.best(0), 1);
        x.undo();
        Due.is("twenty", x.best(0), 10);
        x.image();
        x.wheels(false);
        Due.is("slow: 0 has it with 0 at 40 - 40, 1 with 30", x.best(1), 3);
        Due.is("slow", x.best(0), 10);
        x.back();
        Due.is("fast", x.best(1), 8);
        x.move(0, 1, 5);
        Due.is("moved", x.best(1), 8);
        Due.tell(x, 1, "y:99", 0);
        x.law(0);
        Due.is("by the law", x.best(1), 0);
        Due.is("by the law", x.best(0), 1);
        x.law(-1);
        Due.is("by none", x.best(1), 8);
        x.fill(0, 10);
        Due.is("cold", x.best(1), 0);
        Due.tell(x, 0, "d;dx2", 2);
        Due.is("another office", x.best(1), 4);
    }

    private static void byLaw() {
        // it cools only on the second way, by 31: the room that wants 30 must be the first one
        TeaTrolley x = Due.office("sc9;dx9w1n29;df3x9w3n30;df2x9w2n29");
        Due.tell(x, 1, "y:n=1?31;y:0", 0);
        x.law(0);
        Due.is("rooms behind it count", x.best(0), 102);
        Due.is("all", x.best(1), 6);
        // 18, 21 and 24 minutes with two stops ahead of the last; by 102 it is 71
        Due.is("rooms behind it count", x.shortest(7, 0), 120);
        Due.is("rooms behind it count", x.shortest(7, 1), 65);
        Due.is("with two rooms, too", x.shortest(3, 0), 10);
        Due.tell(x, 1, "y:k=19?31;y:k=17?32;y:0", 1);
        x.law(1);
        Due.is("cups left count", x.best(0), 210);
        Due.is("cups left count", x.best(1), 6);
        Due.is("cups left count", x.shortest(3, 0), -1);
        // no law cools by nothing: far away and hot
        Due.tell(x, 1, "y:0", 2);
        x.law(2);
        Due.is("not cooled", x.best(1), 6);
        Due.is("not cooled", x.shortest(7, 0), 21);
        x.law(-1);
        Due.is("cooled", x.best(1), 0);
        Due.is("cooled", x.shortest(1, 0), -1);
    }

    private static void shortest() {
        TeaTrolley x = Due.office(OFFICE);
        int[][] due = {{5, 2, 12}, {3, -1, -1}, {8, 3, 14}, {10, 13, 29}, {1, 0, 4}, {2, 1, 12}, {4, 2, 10}};
        for (int[] d : due) {
            Due.is("row of " + d[0], x.shortest(d[0], 0), d[1]);
            Due.is("minutes of " + d[0], x.shortest(d[0], 1), d[2]);
        }
        x.shut(0);
        Due.is("all doors open", x.shortest(5, 0), 2);
        Due.is("no such what", x.shortest(5, 2), -1);
        Due.is("no such what", x.shortest(5, -1), -1);
        Due.is("no room", x.shortest(0, 0), -1);
        Due.is("no such room", x.shortest(16, 0), -1);
        Due.is("no such room", x.shortest(17, 0), -1);
        Due.is("below", x.shortest(-1, 0), -1);
        x.fill(1, 4);
        Due.is("a cup each", x.shortest(5, 0), -1);
        x.fill(1, 5);
        Due.is("just so many", x.shortest(5, 0), 2);
        TeaTrolley tie = Due.office("sc0;dx3s1;df1x0s1");
        Due.is("of several the least", tie.shortest(3, 0), 1);
        // 3, one to stop, and 6; or 3, one to stop, and 6
        Due.is("minutes", tie.shortest(3, 1), 10);
        TeaTrolley one = Due.office("dx5w1n55;dx6w1n55;dx7w1n54");
        Due.is("just hot", one.shortest(1, 1), 5);
        Due.is("just not", one.shortest(2, 1), -1);
        Due.is("just not", one.shortest(2, 0), -1);
        Due.is("both", one.shortest(5, 0), -1);
        TeaTrolley stop = Due.office("sc0;dx3s9;df1x0s1");
        Due.is("the long stop last", stop.shortest(3, 0), 10);
        Due.is("minutes", stop.shortest(3, 1), 10);
        Due.is("no office", new TeaTrolley().shortest(1, 0), -1);
    }

    private static void seen() {
        TeaTrolley x = Due.office("d;dx4");
        Due.is("no such room", x.seen(2, 5, true), -1);
        Due.is("no such room", x.seen(-1, 5, true), -1);
        Due.is("below", x.seen(0, -1, true), -1);
        Due.is("above", x.seen(0, 1000, true), -1);
        Due.is("none so far", x.count(10), 0);
        for (int i = 1; i <= 10; i++) {
            Due.is("seen", x.seen(i % 2, i == 1 ? 999 : 900, true), i);
        }
        Due.is("ten at most", x.seen(0, 5, true), -1);
        Due.is("ten", x.count(10), 10);
        Due.is("no act", x.count(13), 0);
        Due.is("all fit", x.fits(-1), 2);
    }

    private static void fits() {
        // 01: at 1 and 5; 10: at 8 and 4
        String office = "d;dx4";
        int[][] due = {{1, 4, 1, 10}, {1, 4, 0, 1}, {1, 3, 1, -1}, {1, 5, 0, -1}, {0, 7, 1, 1}, {0, 7, 0, 10},
            {0, 1, 1, 1}, {0, 0, 1, -1}, {0, 8, 0, -1}};
        for (int[] d : due) {
            TeaTrolley x = Due.office(office);
            x.seen(d[0], d[1], d[2] == 1);
            Due.is("how many", x.fits(-1), d[3] < 0 ? 0 : 1);
            Due.is("which", x.fits(0), d[3]);
            Due.is("no more", x.fits(1), -1);
            Due.is("second", x.second(), d[3] < 0 ? 1 : 0);
        }
        TeaTrolley x = Due.office("d;dx4");
        x.shut(1);
        Due.is("all doors open", x.fits(-1), 2);
        Due.is("first", x.fits(0), 1);
        Due.is("second", x.fits(1), 10);
        Due.is("third", x.fits(2), -1);
        Due.is("below", x.fits(-2), -1);
        x.seen(1, 5, true);
        Due.is("both", x.fits(-1), 2);
        x.wheels(false);
        // 01: at 2 and 9; 10: at 15 and 8
        Due.is("as it is now", x.fits(-1), 0);
        Due.is("second", x.second(), 1);
        x.undo();
        Due.is("as it was", x.fits(-1), 2);
        Due.is("no office", new TeaTrolley().fits(-1), -1);
        Due.is("no office", new TeaTrolley().second(), -1);
    }

    private static void ask() {
        // 01: at 4 and 8; 10: at 5 and 1
        TeaTrolley x = Due.office("dx4;d");
        int[][] due = {{0, 0}, {1, 1}, {2, 1}, {3, 1}, {4, 0}, {5, 1}, {7, 1}, {8, 0}, {999, 0}};
        for (int[] d : due) {
            Due.is("ask " + d[0], x.ask(d[0]), d[1]);
        }
        Due.is("below", x.ask(-1), -1);
        Due.is("above", x.ask(1000), -1);
        Due.is("rows again", x.fits(1), 10);
        // 012 at 1 3 5, 021 at 1 6 4, 102 at 4 2 7, 120 at 7 2 4, 201 at 6 8 3, 210 at 7 5 3
        TeaTrolley three = Due.office("dx1s1;dx2s1;dx3s1");
        Due.is("2, 0 and 0 of 6", three.ask(1), 0);
        Due.is("2, 2 and 0 of 6", three.ask(2), 0);
        Due.is("2, 3 and 2 of 6", three.ask(3), 1);
        Due.is("3, 3 and 4 of 6", three.ask(4), 0);
        Due.is("4, 5 and 5 of 6", three.ask(6), 0);
        Due.is("6, 5 and 6 of 6", three.ask(7), 1);
        Due.is("all", three.ask(8), 0);
        x.seen(1, 7, true);
        Due.is("one fits: all alike", x.ask(2), 0);
        x.seen(1, 7, false);
        Due.is("nothing fits", x.ask(2), -1);
        Due.is("no office", new TeaTrolley().ask(0), -1);
    }

    private static void eightRooms() {
        TeaTrolley x = Due.office("sk60;dx0;dx1;dx2;dx3;dx4;dx5;dx6;dx7", "76543210");
        Due.is("all rows", x.fits(-1), 40320);
        Due.is("first", x.fits(0), 1234567);
        Due.is("last", x.fits(40319), 76543210);
        Due.is("no more", x.fits(40320), -1);
        Due.is("middle", x.fits(20160), 40123567);
        Due.is("best", x.best(0), 1234567);
        Due.is("how many", x.best(1), 16);
        Due.is("shortest", x.shortest(255, 0), 1234567);
        Due.is("minutes: 7 steps, 7 stops", x.shortest(255, 1), 14);
        Due.is("comes", x.comes(0, 0), 21);
        // straight to 7, a stop, and straight back to 0
        x.seen(7, 7, true);
        x.seen(7, 6, false);
        Due.is("7 first", x.fits(-1), 5040);
        Due.is("7 first", x.fits(0), 70123456);
        x.seen(0, 15, true);
        x.seen(0, 14, false);
        Due.is("0 second", x.fits(-1), 720);
        Due.is("0 second", x.fits(719), 70654321);
    }
}
