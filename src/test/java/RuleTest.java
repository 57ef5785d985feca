/** Promises 6 to 12, 38, 39 and 43: what is told and what holds; and how laws are worked out (part 1, 2). */
public final class RuleTest {
    private static final String OFFICE = "sh70c3p2k9;dx2w3n60s2;df1x3w4n40s3;dx5w2;df2x1w0n0s0;df3x9";

    public static void main(String[] args) {
        rules();
        rooms();
        holding();
        steps();
        places();
        sums();
        conditions();
        letters();
        counts();
        Due.close("RuleTest");
    }

    private static void rules() {
        TeaTrolley x = Due.office(OFFICE);
        int[] rules = {70, 3, 2, 9};
        for (int i = 0; i < 4; i++) {
            Due.is("rule " + i, x.rule(i), rules[i]);
        }
        Due.is("rule 4", x.rule(4), -1);
        Due.is("rule -1", x.rule(-1), -1);
        x.fill(0, 33);
        x.fill(1, 44);
        x.wheels(false);
        Due.is("heat now", x.rule(0), 33);
        Due.is("pace now", x.rule(2), 3);
        Due.is("cups now", x.rule(3), 44);
        TeaTrolley untold = Due.office("d;dx2");
        int[] without = {60, 1, 1, 20};
        for (int i = 0; i < 4; i++) {
            Due.is("untold rule " + i, untold.rule(i), without[i]);
        }
    }

    private static void rooms() {
        TeaTrolley x = Due.office(OFFICE);
        int[][] rooms = {{0, 2, 3, 60, 2}, {1, 3, 4, 40, 3}, {0, 5, 2, 30, 1}, {2, 1, 0, 0, 0}, {3, 9, 2, 30, 1}};
        for (int r = 0; r < 5; r++) {
            for (int w = 0; w < 5; w++) {
                Due.is("room " + r + " " + w, x.room(r, w), rooms[r][w]);
            }
            Due.is("frost", x.room(r, 5), 0);
            Due.is("door", x.room(r, 6), 0);
        }
        x.move(1, 3, 2);
        x.shut(2);
        Due.is("workers now", x.room(1, 2), 2);
        Due.is("workers now", x.room(3, 2), 2);
        Due.is("shut", x.room(2, 6), 1);
        Due.is("not shut", x.room(1, 6), 0);
        x.day();
        Due.is("frost", x.room(1, 5), 1);
        Due.is("open again", x.room(2, 6), 0);
        int[][] wrong = {{5, 0}, {-1, 0}, {8, 0}, {0, 7}, {0, -1}, {Integer.MAX_VALUE, 0}, {0, Integer.MIN_VALUE}};
        for (int[] w : wrong) {
            Due.is("room refuses " + w[0] + " " + w[1], Due.refuses(x, w[0], w[1]), 1);
        }
    }

    private static void holding() {
        TeaTrolley x = Due.office(OFFICE);
        Due.is("no law", x.law(0), false);
        Due.is("no round", x.hold(0), false);
        Due.is("none", x.law(-1), true);
        Due.is("none", x.hold(-1), true);
        Due.is("below", x.law(-2), false);
        Due.is("below", x.hold(-2), false);
        Due.tell(x, 1, "y:1", 0);
        Due.tell(x, 1, "y:2", 1);
        Due.tell(x, 2, "3 0 7", 0);
        Due.tell(x, 2, "1", 1);
        Due.is("not by itself", x.count(4), -1);
        Due.is("not by itself", x.count(5), -1);
        Due.is("law 1", x.law(1), true);
        Due.is("again", x.law(1), true);
        Due.is("law 2", x.law(2), false);
        Due.is("it holds", x.count(4), 1);
        Due.is("hold 0", x.hold(0), true);
        Due.is("again", x.hold(0), true);
        Due.is("hold 2", x.hold(2), false);
        Due.is("it holds", x.count(5), 0);
        Due.is("told", x.round(0, 0), 3);
        Due.is("told", x.round(0, 1), 0);
        Due.is("told, though not there", x.round(0, 2), 7);
        for (int i = 3; i < 8; i++) {
            Due.is("no longer", x.round(0, i), -1);
        }
        Due.is("i 8", x.round(0, 8), -1000000);
        Due.is("i -1", x.round(0, -1), -1000000);
        Due.is("round 2", x.round(2, 0), -1000000);
        Due.is("round -1", x.round(-1, 0), -1000000);
        Due.is("by law 1", x.comes(3, 1), 68);
        Due.is("none holds", x.law(-1), true);
        Due.is("by what it cools", x.comes(3, 1), 70 - 7 * 2 * 3);
        Due.is("no round holds", x.hold(-1), true);
        Due.is("comes nowhere", x.comes(3, 1), -1);
        int[][] wobbles = {{0, 0}, {9, 1}, {9, 0}, {10, 0}, {-1, 0}, {0, 1}, {5, 1}};
        for (int[] w : wobbles) {
            Due.is("wobble " + w[0], x.wobble(w[0]) ? 1 : 0, w[1]);
        }
        Due.is("wobble is", x.count(9), 5);
    }

    private static void steps() {
        TeaTrolley x = Due.office(OFFICE);
        int[][] apart = {{0, 8, 3, 9, 20}, {8, 0, 11, 7, 18}, {3, 11, 0, 12, 23}, {9, 7, 12, 0, 13},
            {20, 18, 23, 13, 0}};
        for (int a = 0; a < 5; a++) {
            for (int b = 0; b < 5; b++) {
                Due.is("steps " + a + " " + b, x.steps(a, b), apart[a][b]);
            }
        }
        int[][] wrong = {{0, 5}, {5, 0}, {-1, 0}, {0, -1}, {9, 9}};
        for (int[] w : wrong) {
            Due.is("steps refused", x.steps(w[0], w[1]), -1);
        }
    }

    private static void places() {
        TeaTrolley x = Due.office(OFFICE);
        int[] floors = {5, 2, 8, 16};
        for (int f = 0; f < 4; f++) {
            Due.is("floor " + f, x.floor(f), floors[f]);
        }
        Due.is("floor 4", x.floor(4), -1);
        Due.is("floor -1", x.floor(-1), -1);
        int[] nearest = {2, 3, 0, 1, 3};
        for (int r = 0; r < 5; r++) {
            Due.is("nearest " + r, x.nearest(r), nearest[r]);
        }
        Due.is("nearest 5", x.nearest(5), -1);
        Due.is("nearest -1", x.nearest(-1), -1);
        TeaTrolley alike = Due.office("dx3;dx1;dx5;dx3f1");
        Due.is("of several the lowest", alike.nearest(0), 1);
        Due.is("no floor 3 there", alike.floor(3), 0);
    }

    /** With m 20, h 90, f 1, d 10, k 5, n 1 on the way to room 1: how much it cools. */
    private static void worth(String law, int due) {
        TeaTrolley x = Due.office("sh90k7p2;dx3w2;df1x4w1", "01");
        Due.tell(x, 1, law, 0);
        Due.is("law", x.law(0), true);
        Due.is("ahead of " + law, x.comes(0, 1), 90);
        Due.is("worth of " + law, 90 - x.comes(1, 1), due);
    }

    private static void sum(String sum, int due) {
        worth("y:n=0?0;y:" + sum, due);
    }

    private static void sums() {
        sum("7/2", 3);
        sum("[1-8]/2+10", 7);
        sum("[0-7]/[0-2]", 3);
        sum("5/0+4", 4);
        sum("m/[f-1]", 0);
        sum("2+3*4", 14);
        sum("[2+3]*4", 20);
        sum("20-5-3", 12);
        sum("20-[5-3]", 18);
        sum("40/4/5", 2);
        sum("40/4*5", 50);
        sum("7*3/2", 10);
        sum("7/2*3", 9);
        sum("9999*9999-9999*100-50", 50);
        sum("0-9999*9999+9999*100+150", 50);
        sum("9999*9999*9999/9999-99+70-50", 21);
        sum("9999*9999/9999", 90);
        sum("9999*9999/9999-90", 10);
        sum("9999*100+9999-9999*99-9999-60", 40);
        sum("3-5", 0);
        sum("0-9999*9999", 0);
        sum("89", 89);
        sum("90", 90);
        sum("0007", 7);
    }

    private static void conditions() {
        worth("y:n=0?0;y:m=20?5;y:6", 5);
        worth("y:n=0?0;y:m=21?5;y:6", 6);
        worth("y:n=0?0;y:m<21?5;y:6", 5);
        worth("y:n=0?0;y:m<20?5;y:6", 6);
        worth("y:n=0?0;y:m>19?5;y:6", 5);
        worth("y:n=0?0;y:m>20?5;y:6", 6);
        worth("y:n=0?0;y:!m=20?5;y:6", 6);
        worth("y:n=0?0;y:!!m=20?5;y:6", 5);
        worth("y:n=0?0;y:!m=1&m=2?5;y:6", 6);
        worth("y:n=0?0;y:!(m=1&m=2)?5;y:6", 5);
        worth("y:n=0?0;y:m=20|m=1&m=2?5;y:6", 5);
        worth("y:n=0?0;y:(m=20|m=1)&m=2?5;y:6", 6);
        worth("y:n=0?0;y:m=1&m=2|m=20?5;y:6", 5);
        worth("y:n=0?0;y:m=1&(m=2|m=20)?5;y:6", 6);
        worth("y:n=0?0;y:m+h*2=200?5;y:6", 5);
        worth("y:n=0?0;y:200=[m+80]*2?5;y:6", 5);
        worth("y:n=0?0;y:m=1?5", 0);
        worth("y:n>0?8;y:0;y:9", 8);
    }

    private static void letters() {
        sum("m", 20);
        sum("h-50", 40);
        sum("f*9", 9);
        sum("d", 10);
        sum("k", 5);
        sum("n*9", 9);
        // on its first way: 6 minutes, 3 steps, 7 cups, at no room so far
        TeaTrolley x = Due.office("sh90k7p2;dx3w2;df1x4w1", "01");
        Due.tell(x, 1, "y:m*7+d*2+k+n*9+h/90+f*9", 0);
        x.law(0);
        Due.is("first way", x.comes(0, 1), 90 - (42 + 6 + 7 + 0 + 1 + 0));
        Due.is("held within 99", x.comes(1, 1), 0);
    }

    private static void counts() {
        TeaTrolley x = Due.office(OFFICE, "013");
        Due.is("rooms", x.count(0), 5);
        Due.is("workers", x.count(8), 11);
        Due.is("rounds", x.count(2), 1);
        Due.is("round held", x.count(5), 0);
        x.shut(4);
        x.shut(1);
        Due.is("doors", x.count(11), 18);
        x.seen(1, 1, false);
        x.seen(2, 2, true);
        Due.is("seen", x.count(10), 2);
        Due.is("acts", x.count(13), 2);
        x.move(0, 1, 1);
        Due.is("workers of all", x.count(8), 11);
        x.day();
        Due.is("log", x.count(12), 1);
        Due.is("day", x.count(6), 1);
        Due.is("acts", x.count(13), 4);
        Due.is("doors", x.count(11), 0);
        x.feed(0x64000064, 0, 0, 0, 0x64);
        Due.is("bytes", x.count(3), 3);
        Due.is("14", x.count(14), -1000000);
        Due.is("-1", x.count(-1), -1000000);
        Due.is("far", x.count(Integer.MAX_VALUE), -1000000);
    }
}
