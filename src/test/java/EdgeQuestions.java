/** Part 3 of the Terms, sentence by sentence: questions by the round that holds and by rows. */
final class EdgeQuestions {
    /** By 0213: tea 3, 2, 4, 0; heat 62, 50, 6, 0; at 4, 12, 35, 52; 52 in all. */
    private static final String OFFICE = "sh70c2p2k9;dx2w3n60s2;df1x3w4n40s3;dx5w2n30;df2x1w0n0s0";

    private EdgeQuestions() {
    }

    static void run() {
        asItIsNow();
        comes();
        best();
        shortest();
        seat();
        seen();
        fits();
        ask();
        crumbs();
        shares();
        game();
        rests();
        meet();
        thaw();
        odds();
        season();
        roundAsAWhole();
        places();
        happy();
        eightRooms();
        allOfEightRooms();
        constants();
    }

    private static void says(String words) {
        Doc.says(Doc.TERMS, words);
    }

    private static TeaTrolley office() {
        return Due.office(OFFICE, "0213");
    }

    private static void asItIsNow() {
        says("(Apart, as it is now: DOORS that are SHUT, too, if not told otherwise.)");
        TeaTrolley x = office();
        x.shut(2);
        Due.is("comes", x.comes(2, 0), -1);
        Due.is("shares", x.shares(2, 100), 0);
        Due.is("crumbs: 3 and 4 alone", x.crumbs(7, 0), 0);
        Due.is("game", x.game(2, 0, 0, 0, 0), 0);
        Due.is("thaw", x.thaw(2), -1);
        Due.is("odds", x.odds(2, 0), 0);
        Due.is("season", x.season(2), 0);
        Due.is("spare", x.all(0), 2);
        Due.is("lack", x.all(1), 2);
        Due.is("lost", x.all(4), 4);
        // 3 have it hot, and one that moves to 0 too, but none at 2
        Due.is("seat", x.seat(1), 4);
        Due.is("meet", x.meet(2, 0), 0);
        Due.is("not so: best", x.best(1), Due.office(OFFICE).best(1));
        Due.is("not so: shortest", x.shortest(4, 0), 2);
        Due.is("not so: fits", x.fits(-1), 24);
        Due.is("not so: happy", x.happy(0), 5);
        Due.is("apart: no act", x.count(13), 1);
        Due.is("apart: no day", x.count(6), 0);
        x.fill(0, 99);
        Due.is("heat as it is now", x.comes(0, 1), 91);
        x.wheels(true);
        Due.is("pace as it is now", x.comes(0, 0), 2);
        x.move(0, 2, 1);
        Due.is("workers as they are now", x.comes(0, 2), 2);
        x.fill(1, 1);
        Due.is("cups as they are now", x.comes(0, 2), 1);
        bestAsItIsNow();
        fitsAsItIsNow();
    }

    /** What most have hot is asked for anew behind all that can change it. */
    private static void bestAsItIsNow() {
        TeaTrolley x = Due.office("sh40c5;dx4w5n20;dx1w3n30", "01");
        Due.is("at first", x.best(1), 8);
        x.fill(1, 4);
        Due.is("four cups", x.best(1), 4);
        x.undo();
        Due.is("undone", x.best(1), 8);
        x.image();
        x.fill(0, 10);
        Due.is("cold", x.best(1), 0);
        x.back();
        Due.is("back", x.best(1), 8);
        x.wheels(false);
        Due.is("slow", x.best(1), 3);
        x.wheels(true);
        Due.is("fast", x.best(1), 8);
        x.move(0, 1, 5);
        Due.is("the least, as all are at 1", x.best(0), 10);
        x.decades(1, 1);
        Due.is("behind a day", x.best(1), 8);
        Due.law(x, "y:99");
        Due.is("by a law", x.best(1), 0);
        Due.law(x, "y:0");
        Due.is("by another law", x.best(1), 8);
        x.law(0);
        Due.is("by the first law", x.best(1), 0);
        x.law(-1);
        Due.is("by none", x.best(1), 8);
        Due.tell(x, 0, "dw1;dx2w1", 2);
        Due.is("another office", x.best(1), 2);
    }

    private static void fitsAsItIsNow() {
        // 01: at 1 and 5; 10: at 8 and 4; by pace 2 at 2 and 9; at 15 and 8
        TeaTrolley x = Due.office("d;dx4");
        x.seen(0, 9, true);
        Due.is("both", x.fits(-1), 2);
        x.wheels(false);
        Due.is("no second row", x.fits(1), -1);
        Due.is("the first", x.fits(0), 1);
        Due.is("one", x.fits(-1), 1);
        Due.is("0 has come by it", x.ask(2), 0);
        x.undo();
        Due.is("the second again", x.fits(1), 10);
    }

    private static void comes() {
        says("COMES to a ROOM by the ROUND that holds: MINUTES, HEAT, CUPS POURED there.");
        TeaTrolley x = office();
        int[][] due = {{4, 62, 3}, {35, 6, 4}, {12, 50, 2}, {52, 0, 0}};
        for (int room = 0; room < 4; room++) {
            for (int what = 0; what < 3; what++) {
                Due.is("comes " + room + " " + what, x.comes(room, what), due[room][what]);
            }
        }
        Due.hold(x, "2");
        Due.is("told", x.comes(2, 0), 10);
        Due.is("not told", x.comes(0, 0), -1);
        x.hold(-1);
        Due.is("none holds", x.comes(2, 0), -1);
    }

    private static void best() {
        says("BEST: rows of all ROOMS (digits, the first the highest; all DOORS open)");
        TeaTrolley x = Due.office("sh40c5;dx4w5n20;dx1w3n30", "0");
        Due.is("1 first, then 0", x.best(0), 10);
        x.shut(1);
        Due.is("all doors open", x.best(0), 10);
        Due.is("all doors open", x.best(1), 8);
        TeaTrolley eight = Due.office("sc0k60;dx0;dx1;dx2;dx3;dx4;dx5;dx6;dx7");
        Due.is("eight digits, the first is 0", eight.best(0), 1234567);
        Due.is("all have it hot", eight.best(1), 16);
        says("by which most have it HOT (of several the least row): the row, how many.");
        // 01 and 10: 2 at 0 and 4 at 1, but 4 cups in all
        TeaTrolley cups = Due.office("sh30k4;dx1w2n10;dx9w4n20");
        Due.is("of several the least", cups.best(0), 1);
        Due.is("cups in all", cups.best(1), 4);
        // the first room takes the cup: 1 has it hot by 01, none by 10
        TeaTrolley one = Due.office("sc0k1;dx1w1n60;dx2w1n61");
        Due.is("one cup", one.best(0), 1);
        Due.is("one cup", one.best(1), 1);
        TeaTrolley other = Due.office("sc0k1;dx1w1n61;dx2w1n60");
        Due.is("one cup for 1", other.best(0), 10);
        Due.is("one cup for 1", other.best(1), 1);
        TeaTrolley none = Due.office("sh10;df3n99;df2n99;df1n99");
        Due.is("none has it hot: the least", none.best(0), 12);
        Due.is("none has it hot", none.best(1), 0);
        TeaTrolley empty = Due.office("dw0;dx2w0");
        Due.is("no workers: the least", empty.best(0), 1);
        Due.is("no workers", empty.best(1), 0);
        TeaTrolley just = Due.office("sh50;dx5w1n46;dx7w2n43");
        Due.is("45 and 43", just.best(1), 2);
        just.fill(0, 51);
        Due.is("46 and 44", just.best(1), 3);
        // 012 and 021: 6 and 5; by 201 the room near the lift has it hot, too
        Due.is("a later row", Due.office("sh40c5;dx4w3n20;dx5w3n15;dx1w1n30").best(0), 201);
        Due.is("a later row", Due.office("sh40c5;dx4w3n20;dx5w3n15;dx1w1n30").best(1), 7);
        // what is without heat is hot for those that want none: by 120 all nine cups go to 2
        Due.is("0 is as much as 0", Due.office("sh10c9k9;dx9w4n99;dx8w0;df1x9w9n0").best(0), 120);
        Due.is("0 is as much as 0", Due.office("sh10c9k9;dx9w4n99;dx8w0;df1x9w9n0").best(1), 9);
        bestByLaw();
    }

    private static void bestByLaw() {
        // it cools on the second way alone, by 31: the room that wants 30 must be the first one
        TeaTrolley x = Due.office("sc9;dx9w1n29;df3x9w3n30;df2x9w2n29");
        Due.law(x, "y:n=1?31;y:0");
        Due.is("rooms where it was", x.best(0), 102);
        Due.is("all", x.best(1), 6);
        Due.law(x, "y:k=19?31;y:k=17?32;y:0");
        Due.is("cups left", x.best(0), 210);
        Due.law(x, "y:0");
        Due.is("far away and hot", x.best(1), 6);
        Due.is("the least", x.best(0), 12);
    }

    private static void shortest() {
        says("SHORTEST for a set of ROOMS (bits; at least one; all DOORS open):");
        TeaTrolley x = Due.office("sc0k60;dx0;dx1;dx2;dx3;dx4;dx5;dx6;dx7", "0");
        Due.is("none", x.shortest(0, 0), -1);
        Due.is("the first", x.shortest(1, 0), 0);
        Due.is("the last", x.shortest(128, 0), 7);
        Due.is("all", x.shortest(255, 0), 1234567);
        Due.is("a ninth", x.shortest(256, 0), -1);
        Due.is("a ninth, too", x.shortest(257, 0), -1);
        x.shut(7);
        Due.is("all doors open", x.shortest(128, 0), 7);
        says("rows of just these by which all WORKERS in all of them have it HOT (each gets a CUP):");
        Due.is("just these: 7 minutes", x.shortest(128, 1), 7);
        TeaTrolley y = Due.office("sk4;dx5w2n55;dx6w2n54;dx7w1n54");
        Due.is("just hot", y.shortest(1, 0), 0);
        Due.is("both just hot", y.shortest(3, 0), 1);
        Due.is("too cold", y.shortest(4, 0), -1);
        Due.is("too cold", y.shortest(4, 1), -1);
        Due.is("one of them is", y.shortest(5, 0), -1);
        Due.is("a cup each", y.shortest(3, 1), 7);
        y.fill(1, 3);
        Due.is("one cup too few", y.shortest(3, 0), -1);
        Due.is("one cup too few", y.shortest(3, 1), -1);
        TeaTrolley empty = Due.office("dx5w0n99;dx9w0n99");
        Due.is("no worker, none is cold", empty.shortest(3, 0), 1);
        Due.is("0 is as much as 0", Due.office("sh10c9;dx9w4n0;df1").shortest(1, 0), 0);
        TeaTrolley law = Due.office("sc9;dx5w1n55;dx6w1n55;dx7w1n0");
        Due.law(law, "y:m");
        Due.is("just hot by a law", law.shortest(1, 0), 0);
        Due.is("just not by a law", law.shortest(2, 0), -1);
        Due.law(law, "y:n=1?99;y:0");
        Due.is("only the first is hot", law.shortest(3, 0), -1);
        Due.is("then one that wants nothing", law.shortest(5, 0), 2);
        Due.is("which can't be the first", law.shortest(6, 0), 12);
        says("the one with the fewest MINUTES up to where it comes to the last of them");
        // 01: 3, 9 to stop, 6; 10: 3, 1 to stop, 6
        TeaTrolley stop = Due.office("sc0;dx3s9;df1x0s1");
        Due.is("the long stop last", stop.shortest(3, 0), 10);
        Due.is("which does not count", stop.shortest(3, 1), 10);
        says("(of several the least row): the row, MINUTES.");
        TeaTrolley tie = Due.office("sc0;dx3s1;df1x0s1");
        Due.is("of several the least", tie.shortest(3, 0), 1);
        Due.is("minutes", tie.shortest(3, 1), 10);
        TeaTrolley zero = Due.office("sc0;dx0;dx2");
        Due.is("no minute at all", zero.shortest(1, 1), 0);
    }

    private static void seat() {
        says("MOVE: one WORKER from a ROOM to another one (9 at most there)");
        TeaTrolley x = Due.office("dw9n0;dx2w1n99", "01");
        // to 0 would be better, but there are nine
        Due.is("to 1 alone", x.seat(0), 1);
        Due.is("to 1 alone", x.seat(1), 8);
        TeaTrolley none = Due.office("dw9;dx2w9;dx3w0", "012");
        Due.is("to 2 alone", none.seat(0), 2);
        TeaTrolley y = Due.office("dw0n0;dx2w3n0", "01");
        Due.is("from 1 alone", y.seat(0), 10);
        Due.is("all have it hot", y.seat(1), 3);
        says("by which most have it HOT by the ROUND that holds:");
        TeaTrolley z = office();
        Due.is("one from 1", z.seat(0), 10);
        Due.is("six", z.seat(1), 6);
        Due.hold(z, "3");
        Due.is("to 3, by another round", z.seat(0), 3);
        Due.is("one", z.seat(1), 1);
        says("10 times the one and the other (of several the least); how many then.");
        TeaTrolley even = Due.office("dw2n0;dx2w2n0;dx3w2n0", "012");
        Due.is("of several the least", even.seat(0), 1);
        Due.is("as many as ahead", even.seat(1), 6);
        TeaTrolley last = Due.office("dw2n0;dx2w2n0;dx3w2n99;dx4w2n0", "0123");
        Due.is("20, 21 and 23 alike", last.seat(0), 20);
        Due.is("how many then", last.seat(1), 7);
    }

    private static void seen() {
        says("DOORS seen (10 at most):");
        TeaTrolley x = Due.office("d;dx4");
        for (int i = 1; i <= 10; i++) {
            Due.is("seen", x.seen(0, 999, true), i);
        }
        Due.is("an eleventh", x.seen(0, 0, true), -1);
        Due.is("ten", x.count(10), 10);
        Due.is("the eleventh does not count", x.fits(-1), 2);
        says("by a minute t (0 .. 999)");
        TeaTrolley y = Due.office("d;dx4");
        Due.is("-1", y.seen(0, -1, true), -1);
        Due.is("1000", y.seen(0, 1000, true), -1);
        Due.is("none so far", y.count(10), 0);
        Due.is("0", y.seen(0, 0, false), 1);
        Due.is("999", y.seen(0, 999, true), 2);
        Due.is("both are so", y.fits(-1), 2);
        says("the trolley had come to a ROOM, or had not.");
        // 01: at 1 and 5; 10: at 8 and 4
        int[][] due = {{1, 3, 1, -1}, {1, 4, 1, 10}, {1, 4, 0, 1}, {1, 5, 0, -1}, {0, 0, 1, -1}, {0, 1, 1, 1},
            {0, 7, 1, 1}, {0, 7, 0, 10}, {0, 8, 0, -1}};
        for (int[] d : due) {
            TeaTrolley z = Due.office("d;dx4");
            z.seen(d[0], d[1], d[2] == 1);
            Due.is("the row by which it is so", z.fits(0), d[3]);
        }
        // 01: at 0 and 5
        TeaTrolley zero = Due.office("dx0;dx4");
        zero.seen(0, 0, true);
        Due.is("at minute 0", zero.fits(-1), 1);
        Due.is("at minute 0", zero.fits(0), 1);
    }

    private static void fits() {
        says("FITS: rows of all ROOMS (all DOORS open) by which all that was seen is so: how many, the i-th (rising).");
        TeaTrolley x = Due.office("dx1s1;dx2s1;dx3s1", "0");
        int[] rows = {12, 21, 102, 120, 201, 210};
        Due.is("all", x.fits(-1), 6);
        for (int i = 0; i < 6; i++) {
            Due.is("row " + i, x.fits(i), rows[i]);
        }
        Due.is("no seventh", x.fits(6), -1);
        x.shut(0);
        Due.is("all doors open", x.fits(-1), 6);
        // room 1 comes at 3, 6, 2, 2, 8, 5
        x.seen(1, 5, true);
        Due.is("four", x.fits(-1), 4);
        Due.is("the last of them", x.fits(3), 210);
        Due.is("no fifth", x.fits(4), -1);
        // room 0 comes at 1, 1, 4, 7, 6, 7
        x.seen(0, 4, false);
        Due.is("both are so", x.fits(-1), 2);
        Due.is("rising", x.fits(0), 120);
        Due.is("rising", x.fits(1), 210);
        says("SECOND: whether there must be another trolley: there is no such row (1, 0).");
        Due.is("there are two", x.second(), 0);
        x.seen(2, 3, false);
        Due.is("there is one", x.second(), 0);
        x.seen(2, 3, true);
        Due.is("had and had not", x.second(), 1);
        Due.is("none", x.fits(-1), 0);
        Due.is("none", x.fits(0), -1);
        manyRooms();
    }

    private static void manyRooms() {
        StringBuilder rooms = new StringBuilder("dx0");
        int all = 1;
        int last = 0;
        for (int i = 2, place = 10; i <= 8; i++, place *= 10) {
            rooms.append(";dx").append(i);
            all *= i;
            last += place * (i - 1);
            TeaTrolley x = Due.office(rooms.toString());
            Due.is("rows of " + i, x.fits(-1), all);
            Due.is("the last of " + i, x.fits(all - 1), last);
            Due.is("no more of " + i, x.fits(all), -1);
        }
        Listed.check("dx1s1;df1x2s0;dx4s3");
        Listed.check("dx3;dx0;dx5");
        Listed.check("sp2;dx1s1;df1x2s0;dx4s3;df3x9s9", 2, 30, 1, 0, 12, 0);
        Listed.check("sp5;dx1s0;df1x2s0;dx4s0;df3x0s0;df2x7s9", 1, 200, 1);
        Listed.check("sp5;dx1s0;df1x2s0;dx4s0;df3x0s0;df2x7s9", 1, 100, 0, 3, 230, 1);
        Listed.check("dx0s9;dx1s9;dx2s9;dx3s9;dx4s9", 0, 10, 0, 4, 14, 0, 2, 40, 1);
        Listed.check("dx0s0;dx1s0;dx2s0;dx3s0;dx9s0", 4, 8, 0, 3, 5, 1, 3, 2, 0);
        Listed.check("sp3;dx0;df1x0;df2x0;df3x0", 0, 0, 1, 3, 28, 1);
    }

    private static void ask() {
        says("ASK for a minute t: the ROOM by which yes and no are least apart in number among these rows");
        // 012 at 1 3 5, 021 at 1 6 4, 102 at 4 2 7, 120 at 7 2 4, 201 at 6 8 3, 210 at 7 5 3
        TeaTrolley x = Due.office("dx1s1;dx2s1;dx3s1");
        Due.is("2, 3 and 2 of 6", x.ask(3), 1);
        Due.is("3, 4 and 5 of 6", x.ask(5), 0);
        Due.is("6, 5 and 6 of 6", x.ask(7), 1);
        x.seen(0, 6, false);
        // 120 and 210 are left
        Due.is("among these: 0, 1 and 1 of 2", x.ask(3), 1);
        Due.is("among these: 0, 1 and 2 of 2", x.ask(4), 1);
        x.seen(1, 2, true);
        Due.is("one is left: always all apart", x.ask(3), 0);
        says("(of several the lowest).");
        TeaTrolley y = Due.office("dx1s1;dx2s1;dx3s1");
        Due.is("none has come", y.ask(0), 0);
        Due.is("all have", y.ask(999), 0);
        Due.is("at minute 0 it is at the lift, and there is 1", Due.office("dx3;dx0").ask(0), 1);
        Due.is("2, 2 and 0 of 6", y.ask(2), 0);
        Due.is("3, 3 and 4 of 6", y.ask(4), 0);
        Due.is("4, 5 and 5 of 6", y.ask(6), 0);
    }

    private static void crumbs() {
        says("CRUMBS for e (0 .. 200):");
        TeaTrolley x = office();
        Due.is("-1", x.crumbs(-1, -1), -1);
        Due.is("0", x.crumbs(0, -1), 0);
        Due.is("200", x.crumbs(200, -1), 0);
        Due.is("201", x.crumbs(201, -1), -1);
        says("sets of ROOMS (bits), each with WORKERS,");
        Due.is("3 has none", x.crumbs(18, -1), 1);
        Due.is("3 has none", x.crumbs(18, 0), 7);
        Due.is("the empty set", x.crumbs(9, 0), 0);
        Due.is("the empty set", x.crumbs(9, -1), 1);
        TeaTrolley empty = Due.office("dw0;dx2w0", "01");
        Due.is("only the empty set", empty.crumbs(0, -1), 1);
        says("where all had two by the ROUND that holds (CUPS POURED there count twice, elsewhere once)");
        int[][] due = {{9, 0}, {12, 1}, {13, 2}, {16, 3}, {11, 4}, {14, 5}, {15, 6}, {18, 7}};
        for (int[] d : due) {
            Due.is("set for " + d[0], x.crumbs(d[0], 0), d[1]);
        }
        Due.hold(x, "2");
        Due.is("by another round", x.crumbs(4, -1), 4);
        Due.is("by another round", x.crumbs(4, 0), 4);
        says("so that CUPS together are e: how many, the i-th (rising).");
        TeaTrolley y = Due.office("dw3;dx2w3;dx3w3", "012");
        int[][] many = {{8, 0}, {9, 1}, {10, 0}, {12, 3}, {15, 3}, {18, 1}, {19, 0}};
        for (int[] m : many) {
            Due.is("how many for " + m[0], y.crumbs(m[0], -1), m[1]);
        }
        int[] sets = {3, 5, 6, -1};
        for (int i = 0; i < 4; i++) {
            Due.is("the " + i + "-th for 15", y.crumbs(15, i), sets[i]);
        }
        TeaTrolley most = Due.office("sk60;dx0w9;dx1w9;dx2w9;dx3w9;dx4w9;dx5w9;dx6w9;dx7w9", "01234567");
        // 60 cups: 9 each, 6 for room 6, none for 7, which may be in a set or not
        Due.is("all twice", most.crumbs(120, -1), 2);
        Due.is("all twice", most.crumbs(120, 0), 127);
        Due.is("all twice", most.crumbs(120, 1), 255);
    }

    private static void shares() {
        says("SHARES of c (0 .. 999) BUNS by CUPS POURED: for a ROOM c times these by all, cut (none: 0).");
        TeaTrolley x = office();
        int[][] due = {{0, 0, 0}, {0, 100, 33}, {1, 100, 44}, {2, 100, 22}, {3, 100, 0}, {1, 999, 444}, {0, 2, 0},
            {0, 3, 1}, {1, 1000, -1}, {1, -1, -1}};
        for (int[] d : due) {
            Due.is("shares " + d[0] + " " + d[1], x.shares(d[0], d[1]), d[2]);
        }
        x.hold(-1);
        Due.is("no cup at all", x.shares(0, 999), 0);
        Due.is("no worker at all", Due.office("dw0;dx2w0", "01").shares(0, 999), 0);
        Due.is("one has all", Due.office("dw9;dx2w9", "0").shares(0, 999), 999);
    }

    private static void game() {
        says("GAME of two ROOMS: x, y whether they go and meet it (1) or wait (0):");
        TeaTrolley x = office();
        for (int bad : new int[] {-1, 2}) {
            Due.is("x " + bad, x.game(0, 2, bad, 0, 0), -1000000);
            Due.is("y " + bad, x.game(0, 2, 0, bad, 0), -1000000);
        }
        Due.is("of one room", x.game(0, 0, 0, 0, 0), -1000000);
        says("what one has: HEAT as it COMES there by 10, cut (it does not come: 0),");
        Due.is("62", x.game(0, 2, 0, 0, 0), 6);
        Due.is("50", x.game(0, 2, 0, 0, 1), 5);
        Due.is("6", x.game(1, 3, 0, 0, 0), 0);
        Due.is("99", Due.office("sh99;dx0;d", "0").game(0, 1, 0, 0, 0), 9);
        Due.is("it does not come", Due.office("sh99;dx0;d", "0").game(0, 1, 0, 0, 1), 0);
        says("2 more, if it goes alone,");
        Due.is("the first", x.game(0, 2, 1, 0, 0), 8);
        Due.is("the second", x.game(0, 2, 0, 1, 1), 7);
        Due.is("it does not come", Due.office("dx0;d", "0").game(0, 1, 0, 1, 1), 2);
        says("1 less, if both go,");
        Due.is("the first", x.game(0, 2, 1, 1, 0), 5);
        Due.is("the second", x.game(0, 2, 1, 1, 1), 4);
        Due.is("below 0", x.game(1, 3, 1, 1, 0), -1);
        says("1 less, if the other one goes alone.");
        Due.is("the first", x.game(0, 2, 0, 1, 0), 5);
        Due.is("the second", x.game(0, 2, 1, 0, 1), 4);
        Due.is("below 0", x.game(1, 3, 0, 1, 0), -1);
    }

    private static void rests() {
        says("RESTS: 10 times x and y by which neither has more by the other of its own: how many, the i-th (rising).");
        TeaTrolley x = office();
        // who waits while none goes has more by going; no one else has
        int[] due = {1, 10, 11, -1};
        Due.is("how many", x.rests(0, 2, -1), 3);
        for (int i = 0; i < 4; i++) {
            Due.is("rest " + i, x.rests(0, 2, i), due[i]);
        }
        x.hold(-1);
        Due.is("where it does not come, too", x.rests(3, 1, -1), 3);
        Due.is("where it does not come, too", x.rests(3, 1, 0), 1);
    }

    private static void meet() {
        says("MEET of a ROOM: where one from there, setting out at minute 0 with one step a minute,");
        TeaTrolley x = office();
        Due.is("8 steps to 0 by 4: too late; 11 to 2 by 12", x.meet(1, 0), 2);
        says("can be no later than it COMES,");
        Due.is("12 steps to 2 by 12: just so", x.meet(3, 0), 2);
        x.wheels(true);
        // at 2 by minute 7, at 1 by 19 with 40 of heat
        Due.is("12 steps to 2 by 7: too late", x.meet(3, 0), 1);
        says("and have it with the most HEAT (of several the lowest): the ROOM, HEAT");
        Due.is("at home", office().meet(0, 0), 0);
        Due.is("with 62", office().meet(0, 1), 62);
        Due.is("with 50", office().meet(1, 1), 50);
        TeaTrolley even = Due.office("sc0;dx3;dx2;dx1", "210");
        Due.is("of several the lowest", even.meet(2, 0), 0);
        Due.is("heat", even.meet(2, 1), 60);
        says("(it comes nowhere in time: none).");
        TeaTrolley y = Due.office("dx3;df1x9", "0");
        Due.is("3 minutes, 15 steps", y.meet(1, 0), -1);
        Due.is("3 minutes, 15 steps", y.meet(1, 1), -1);
        y.hold(-1);
        Due.is("it comes nowhere", y.meet(0, 0), -1);
        TeaTrolley cold = Due.office("sh10c9;dx9;d", "0");
        Due.is("with no heat at all", cold.meet(0, 0), 0);
        Due.is("with no heat at all", cold.meet(0, 1), 0);
    }

    private static void thaw() {
        says("THAW of a ROOM: the least HEAT as it sets out (10 .. 99)");
        Due.is("10", Due.office("dx0n10;d", "0").thaw(0), 10);
        Due.is("no less than 10", Due.office("dx0n0;d", "0").thaw(0), 10);
        Due.is("99", Due.office("dx0n99;d", "0").thaw(0), 99);
        Due.is("not with 99", Due.office("dx1n99;df1", "0").thaw(0), -1);
        says("by which it has HEAT as HOT as they want there as it COMES by the ROUND that holds.");
        TeaTrolley x = office();
        Due.is("60 and 8", x.thaw(0), 68);
        Due.is("30 and 20", x.thaw(2), 50);
        Due.hold(x, "2");
        Due.is("30 and 20", x.thaw(2), 50);
        Due.is("it does not come", x.thaw(0), -1);
        // by a law what leaves with 99 may be cold, and less hot
        TeaTrolley y = Due.office("dx1n41;dx2", "0");
        Due.law(y, "y:h<50?0;y:99");
        Due.is("the least", y.thaw(0), 41);
        Due.is("nothing is set", y.rule(0), 60);
    }

    private static void odds() {
        says("ODDS of a ROOM for a chance (0 .. 100):");
        TeaTrolley x = office();
        Due.is("-1", x.odds(0, -1), -1);
        Due.is("0", x.odds(0, 0), 1000000);
        Due.is("100", x.odds(0, 100), 0);
        Due.is("101", x.odds(0, 101), -1);
        says("on each WAY it wobbles by chance: PACE more minutes");
        // 62 less 2 more minutes by 2 is below 60; by pace 1: 66 less 2
        Due.is("2 minutes more", x.odds(0, 25), 750000);
        x.wheels(true);
        Due.is("1 minute more", x.odds(0, 25), 1000000);
        TeaTrolley still = Due.office("sp3;dx0n58;dx5", "0");
        Due.is("on a way of no steps", still.odds(0, 40), 600000);
        // m is more, d is not
        TeaTrolley law = Due.office("sp2;dx3;dx5", "0");
        Due.law(law, "y:m=8&d=3?99;y:m=6?0;y:50");
        Due.is("letters on such a way", law.odds(0, 13), 870000);
        says("(of the part that has come so far chance 100ths, cut, wobble; the rest does not):");
        TeaTrolley each = Due.office("dx1s0;dx2s0;dx3n56s0", "012");
        // none 950000, 902500, 857375; on one of the ways 45125 each
        Due.is("one wobble at most", each.odds(2, 5), 857375 + 3 * 45125);
        // 990000, 980100, 970299, less 9702 and less 9605, as they are cut
        TeaTrolley cut = Due.office("sc9h99;dx0s0;dx1s0;dx2s0;dx3s0;dx4n63s0", "01234");
        Due.is("cut on each way", cut.odds(4, 1), 950992);
        // 16 of the parts behind four ways: the least is cut to 0, the next one is 1, and all are still there
        TeaTrolley whole = Due.office("dx1n0;dx2n0;dx3n0;dx4n0;dx5n0", "01234");
        for (int chance : new int[] {0, 1, 7, 33, 50, 99, 100}) {
            Due.is("no part is lost", whole.odds(4, chance), 1000000);
        }
        // 18 cups behind the first room: cold by a wobble on the second way
        TeaTrolley cups = Due.office("dx1;dx2;dx3", "012");
        Due.law(cups, "y:k=18&m=2?99;y:0");
        Due.is("cups left on such a way", cups.odds(2, 13), 870000);
        Due.law(cups, "y:k=16&n=2&m=2?99;y:0");
        Due.is("rooms where it was on such a way", cups.odds(2, 13), 870000);
        says("of 1,000,000 parts those by which HEAT there is as HOT as they want");
        Due.is("hot in any case", Due.office("dx1n0;df1", "0").odds(0, 50), 1000000);
        Due.is("as hot", Due.office("dx1n58;df1", "0").odds(0, 50), 1000000);
        Due.is("half of them", Due.office("dx1n59;df1", "0").odds(0, 50), 500000);
        Due.is("cold in any case", Due.office("dx1n60;df1", "0").odds(0, 50), 0);
        says("(by the ROUND that holds; it does not come: none).");
        TeaTrolley y = Due.office("dx1n0;dx2n0", "0");
        Due.is("it comes", y.odds(0, 50), 1000000);
        Due.is("it does not come", y.odds(1, 50), 0);
        y.hold(-1);
        Due.is("it comes nowhere", y.odds(0, 0), 0);
    }

    private static void season() {
        says("SEASON of a ROOM: by HEAT as it COMES: 3 from 60 on, 2 from 40, 1 from 20, 0 below, "
            + "or if it does not come.");
        TeaTrolley x = Due.office("dx0;dx1", "0");
        int[][] due = {{99, 3}, {80, 3}, {61, 3}, {60, 3}, {59, 2}, {40, 2}, {39, 1}, {20, 1}, {19, 0}, {10, 0}};
        for (int[] d : due) {
            x.fill(0, d[0]);
            Due.is("season by " + d[0], x.season(0), d[1]);
        }
        Due.is("it does not come", x.season(1), 0);
        Due.is("no heat", Due.office("sh10c9;dx9;d", "0").season(0), 0);
    }

    private static void roundAsAWhole() {
        says("SPARE: CUPS left behind the ROUND that holds.");
        TeaTrolley x = office();
        Due.is("none", x.all(0), 0);
        x.fill(1, 11);
        Due.is("two", x.all(0), 2);
        says("LACK: how many WORKERS have none by it.");
        Due.is("all have one", x.all(1), 0);
        x.fill(1, 4);
        Due.is("five", x.all(1), 5);
        says("COLDEST: the ROOM with the least HEAT as it COMES (of several the lowest; of those to which it COMES).");
        Due.is("the last one", x.all(3), 3);
        Due.is("of several the lowest", Due.office("sc0;dx3;dx2;dx1", "21").all(3), 1);
        Due.is("of those to which it comes", Due.office("dx1;dx9;dx5", "02").all(3), 2);
        Due.is("by 0", Due.office("sh10c9;df1;df2;d", "210").all(3), 0);
        says("ICE: ROOMS (bits) with FROST 3 or more.");
        TeaTrolley y = Due.office("d;dx2;dx3w0", "0");
        y.day();
        y.day();
        Due.is("2", y.all(5), 0);
        y.day();
        Due.is("3", y.all(5), 6);
        y.hold(-1);
        y.day();
        y.day();
        Due.is("2 and 5", y.all(5), 6);
        y.day();
        Due.is("all", y.all(5), 7);
        says("LAST: MINUTES in all by the ROUND that holds.");
        Due.is("with its last stop", Due.office("dx3s4;d", "0").all(2), 7);
        Due.is("by none", Due.office("dx3s4;d").all(2), 0);
        says("LOST: ROOMS (bits) to which it does not COME.");
        Due.is("none", office().all(4), 0);
        Due.is("not told", Due.office("d;dx2;dx3", "1").all(4), 5);
        Due.is("no round", Due.office("d;dx2;dx3").all(4), 7);
        Due.is("without cups it comes, too", Due.office("sk1;dw9;dx2", "01").all(4), 0);
    }

    private static void places() {
        says("FLOOR: ROOMS (bits) on a FLOOR.");
        TeaTrolley x = Due.office("dx1;df3;dx2;df1");
        int[] floors = {5, 8, 0, 2};
        for (int floor = 0; floor < 4; floor++) {
            Due.is("floor " + floor, x.floor(floor), floors[floor]);
        }
        says("NEAREST of a ROOM: the other one with the fewest STEPS (of several the lowest).");
        TeaTrolley y = Due.office("dx3;dx5;dx1;df1x0");
        Due.is("1 and 2 alike", y.nearest(0), 1);
        Due.is("0", y.nearest(1), 0);
        Due.is("0", y.nearest(2), 0);
        Due.is("2 on floor 0", y.nearest(3), 2);
        y.shut(1);
        Due.is("its door does not matter", y.nearest(0), 1);
    }

    private static void happy() {
        says("HAPPY of a ROUND (all DOORS open): how many have it HOT by it.");
        TeaTrolley x = office();
        Due.tell(x, 2, "71", 1);
        Due.tell(x, 2, "7", 2);
        x.shut(0);
        x.shut(1);
        Due.is("the one that holds", x.happy(0), 5);
        Due.is("another one", x.happy(1), 4);
        Due.is("none of its rooms is there", x.happy(2), 0);
        x.hold(-1);
        Due.is("none holds", x.happy(0), 5);
    }

    /** Workers are 72, cups 60: 9 each for 7 to 2, 6 for 1 and none for 0. */
    private static void eightRooms() {
        says("d (a ROOM; 2 .. 8),");
        TeaTrolley x = Due.office("sk60;dx0w9;dx1w9;dx2w9;dx3w9;dx4w9;dx5w9;dx6w9;dx7w9", "76543210");
        int[] cups = {0, 6, 9, 9, 9, 9, 9, 9};
        for (int room = 0; room < 8; room++) {
            Due.is("minutes " + room, x.comes(room, 0), 7 + 2 * (7 - room));
            Due.is("heat " + room, x.comes(room, 1), 46 + room);
            Due.is("cups " + room, x.comes(room, 2), cups[room]);
            Due.is("shares " + room, x.shares(room, 60), cups[room]);
            Due.is("thaw " + room, x.thaw(room), 44 - room);
            Due.is("odds " + room, x.odds(room, 50), 1000000);
            Due.is("season " + room, x.season(room), 2);
            Due.is("steps " + room, x.steps(room, 7), 7 - room);
            Due.is("nearest " + room, x.nearest(room), room == 0 ? 1 : room - 1);
            Due.is("meet " + room, x.meet(room, 0), 7);
            Due.is("place " + room, x.room(room, 1), room);
            Due.is("game " + room, x.game(room, 7 - room, 1, 0, 0), room < 4 ? 6 : 7);
            Due.is("rests " + room, x.rests(room, 7 - room, 2), 11);
            Due.is("one row " + room, x.shortest(1 << room, 0), room);
        }
        int[] all = {0, 12, 22, 0, 0, 0};
        for (int what = 0; what < 6; what++) {
            Due.is("all " + what, x.all(what), all[what]);
        }
        Due.is("floor", x.floor(0), 255);
        Due.is("happy", x.happy(0), 60);
        Due.is("best", x.best(0), 1234567);
        Due.is("best", x.best(1), 60);
        Due.is("12 cups too few", x.shortest(255, 0), -1);
        Due.is("six rooms", x.shortest(63, 0), 12345);
        Due.is("nine in all rooms", x.seat(0), -1);
        Due.is("workers", x.count(8), 72);
    }

    private static void allOfEightRooms() {
        says("d (a ROOM; 2 .. 8),");
        TeaTrolley x = Due.office("sk60;dx7w1;dx6w1;dx5w1;dx4w1;dx3w1;dx2w1;dx1w1;dx0w1", "76543210");
        Due.is("seat", x.seat(0), 1);
        Due.is("seat", x.seat(1), 8);
        Due.is("move", x.move(0, 7, 1), 2);
        Due.is("from 0 none", x.seat(0), 10);
        Due.is("at minute 0 it is at the lift", x.ask(0), 7);
        x.seen(7, 0, true);
        Due.is("7 first", x.fits(-1), 5040);
        Due.is("7 first", x.fits(0), 70123456);
        Due.is("the last", x.fits(5039), 76543210);
        Due.is("no second one", x.second(), 0);
        for (int room = 0; room < 8; room++) {
            Due.is("shut " + room, x.shut(room), true);
        }
        Due.is("all are shut", x.count(11), 255);
        x.image();
        Due.is("none has tea", x.day(), 0);
        x.hold(-1);
        x.day();
        x.day();
        Due.is("ice", x.all(5), 255);
        Due.is("lost", x.all(4), 255);
        Due.is("back", x.back(), 0);
        Due.is("all are shut", x.count(11), 255);
        for (int room = 0; room < 8; room++) {
            Due.is("frost " + room, x.room(room, 5), 0);
            Due.is("workers " + room, x.room(room, 2), room == 0 ? 0 : room == 7 ? 2 : 1);
        }
        x.decades(5, 5);
        Due.is("five", x.count(12), 5);
    }

    private static void constants() {
        says("The constants: `NONE = -1`: None; refused.");
        Due.is("NONE", TeaTrolley.NONE, -1);
        says("`HIDDEN = -1000000`: Not told.");
        Due.is("HIDDEN", TeaTrolley.HIDDEN, -1000000);
    }
}
