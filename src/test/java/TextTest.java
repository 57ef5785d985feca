/** Promises 1 to 5: a new object, feed, end, fault, text. */
public final class TextTest {
    public static void main(String[] args) {
        newObject();
        tape();
        officeFaults();
        officeNumbers();
        lawFaults();
        lawDepth();
        roundFaults();
        texts();
        newOffice();
        Due.close("TextTest");
    }

    private static void newObject() {
        TeaTrolley x = new TeaTrolley();
        int[] counts = {0, 0, 0, 0, -1, -1, 0, 0, 0, 0, 0, 0, 0, 0};
        for (int i = 0; i < counts.length; i++) {
            Due.is("new count " + i, x.count(i), counts[i]);
        }
        Due.is("new rule", x.rule(0), -1);
        Due.is("new room", Due.refuses(x, 0, 0), 1);
        Due.is("new back", x.back(), -1);
        Due.is("new image", x.image(), -1);
        Due.is("new wobble 0 is so", x.wobble(0), false);
    }

    private static void tape() {
        TeaTrolley x = new TeaTrolley();
        Due.is("zeros are left out", x.feed(0, 0, 0, 0, 0), 0);
        Due.is("highest first", x.feed(0x30003100, 0, 0x00000032, 0, 0), 3);
        Due.is("a round of it", x.fault(2), -1);
        Due.is("its number", x.text(2), 0);
        Due.is("first", x.round(0, 0), 0);
        Due.is("second", x.round(0, 1), 1);
        Due.is("third", x.round(0, 2), 2);
        Due.is("empty then", x.count(3), 0);
        Due.is("bytes above 127", x.feed(-1, 0x80808080, 0, 0, 0), 8);
        Due.is("are wrong at once", x.fault(0), 0);
        Due.is("end beyond", x.end(9), false);
        Due.is("end below", x.end(-1), false);
        Due.is("end huge", x.end(Integer.MAX_VALUE), false);
        Due.is("still 8", x.count(3), 8);
        Due.is("end as it is", x.end(8), true);
        Due.is("end 3", x.end(3), true);
        Due.is("3", x.count(3), 3);
        Due.is("end 0", x.end(0), true);
        for (int i = 1; i <= 12; i++) {
            Due.is("feed 20", x.feed(0x20202020, 0x20202020, 0x20202020, 0x20202020, 0x20202020), 20 * i);
        }
        Due.is("nothing more is 240 still", x.feed(0, 0, 0, 0, 0), 240);
        Due.is("more than 240", x.feed(0x20000000, 0, 0, 0, 0), -1);
        Due.is("240 as before", x.count(3), 240);
        Due.is("end 230", x.end(230), true);
        Due.is("20 more are too many", x.feed(0x31313131, 0x31313131, 0x31313131, 0x31313131, 0x31313131), -1);
        Due.is("230 as before", x.count(3), 230);
        int[][] many = {{0x31313131, 0x31313131, 0x31313100, 0, 0}, {0, 0x31313131, 0x31313131, 0x31313100, 0},
            {0, 0, 0x31313131, 0x31313131, 0x00313131}, {0x00313131, 0, 0, 0x31313131, 0x31313131},
            {0x31313131, 0x31310031, 0, 0, 0x31313131}};
        for (int[] m : many) {
            Due.is("11 more are too many", x.feed(m[0], m[1], m[2], m[3], m[4]), -1);
            Due.is("230 as before", x.count(3), 230);
        }
        Due.is("10 more are not", x.feed(0x33303030, 0x30303030, 0x30300000, 0, 0), 240);
        Due.is("a digit twice, far behind", x.fault(2), 232);
        longTexts();
    }

    /** Texts that fill the tape. */
    private static void longTexts() {
        StringBuilder sum = new StringBuilder("y:0");
        while (sum.length() < 239) {
            sum.append("+1");
        }
        Due.fault(1, sum.toString(), -1);
        TeaTrolley x = Due.office("sh99;dx0w1;dx9w1", "01");
        StringBuilder ones = new StringBuilder("y:n=0?0;y:0");
        for (int i = 0; i < 60; i++) {
            ones.append("+1");
        }
        Due.tell(x, 1, ones.toString(), 0);
        x.law(0);
        Due.is("sixty ones", x.comes(1, 1), 39);
        StringBuilder clauses = new StringBuilder("y:n=0?0");
        while (clauses.length() < 230) {
            clauses.append(";y:m=1?1");
        }
        Due.tell(x, 1, clauses + ";y:77", 1);
        x.law(1);
        Due.is("the last clause", x.comes(1, 1), 22);
        StringBuilder rooms = new StringBuilder();
        for (int i = 0; i < 8; i++) {
            rooms.append("df").append(i % 4).append("x0").append(i).append("w09n99s09;");
        }
        Due.tell(x, 0, rooms + "sh99c9p5k60", 8);
        Due.is("workers", x.count(8), 72);
    }

    private static void officeFaults() {
        Due.fault(0, "", 0);
        Due.fault(0, "   ", 3);
        Due.fault(0, "d;dx2", -1);
        Due.fault(0, "d", 1);
        Due.fault(0, "d  ", 3);
        Due.fault(0, "s", 1);
        Due.fault(0, "s;s", 2);
        Due.fault(0, "s;d;dx2;s", 8);
        Due.fault(0, "s;d;dx2;sh50", 8);
        Due.fault(0, "d;dx2;s", -1);
        Due.fault(0, "d;s;dx2", -1);
        Due.fault(0, "d;dx2;", 6);
        Due.fault(0, ";d;dx2", 0);
        Due.fault(0, "d;;dx2", 2);
        Due.fault(0, "D;dx2", 0);
        Due.fault(0, "d,dx2", 1);
        Due.fault(0, "d;dx2x3", 5);
        Due.fault(0, "sh50h50;d", 4);
        Due.fault(0, "sf1;d", 1);
        Due.fault(0, "dh50;d", 1);
        Due.fault(0, "dxx", 2);
        Due.fault(0, "dx;d", 2);
        Due.fault(0, "dx", 2);
        Due.fault(0, "dx ", 3);
        Due.fault(0, "dx1 2;d", 4);
        Due.fault(0, "dx-1;d", 2);
        Due.fault(0, "d x1 w2\t;d", 7);
        Due.fault(0, "d;d", 3);
        Due.fault(0, "d;dx1 ", 6);
        Due.fault(0, "d;df0x01", 8);
        Due.fault(0, "df1x4;d;df1x4;s", 15);
        Due.fault(0, "d;d;z", 4);
        Due.fault(0, "dx0;dx1;dx2;dx3;dx4;dx5;dx6;dx7", -1);
        Due.fault(0, "dx0;dx1;dx2;dx3;dx4;dx5;dx6;dx7;d", 32);
        Due.fault(0, "dx0;dx1;dx2;dx3;dx4;dx5;dx6;dx7;s", -1);
        Due.fault(0, "  d f 1 x 02 w 3 n 04 s 5 ; s k 6 0 ", 34);
        Due.fault(0, "  d f 1 x 02 w 3 n 04 s 5 ; s k 60 ", 35);
        Due.fault(0, "  d f 1 x 02 w 3 n 04 s 5 ; s k 60 ; d ", -1);
        Due.fault(0, "ds1n2w3x4f0;sk1p1c0h10;d", -1);
    }

    private static void officeNumbers() {
        // letter, least, most
        Object[][] rules = {{"h", 10, 99}, {"c", 0, 9}, {"p", 1, 5}, {"k", 1, 60}};
        Object[][] rooms = {{"f", 0, 3}, {"x", 0, 9}, {"w", 0, 9}, {"n", 0, 99}, {"s", 0, 9}};
        for (int v = 0; v <= 99; v++) {
            for (Object[] r : rules) {
                number("dx4f2;d;s" + r[0], v, (int) r[1], (int) r[2]);
            }
            for (Object[] r : rooms) {
                number("dx4f2;dw9x0;d" + r[0], v, (int) r[1], (int) r[2]);
            }
        }
        Due.fault(0, "sh099;d", 4);
        Due.fault(0, "sh000;d", 4);
        Due.fault(0, "sp99999;d", 4);
        Due.fault(0, "df400;d", 4);
        Due.fault(0, "df40;d", 3);
        Due.fault(0, "sh9 9;d", 2);
        Due.fault(0, "sh9", 2);
        Due.fault(0, "sh1x;d", 2);
        Due.fault(0, "dn123", 4);
    }

    private static void number(String head, int v, int least, int most) {
        boolean fine = v >= least && v <= most;
        // a room from 0 steps on would stand where another one does
        boolean alike = head.endsWith("dx") && v == 0;
        String end = alike ? "f1" : "";
        String one = head + v + end + ";df3x9w9";
        String two = head + v / 10 + v % 10 + end + ";df3x9w9";
        Due.fault(0, one, fine ? -1 : head.length() + ("" + v).length() - 1);
        Due.fault(0, two, fine ? -1 : head.length() + 1);
        Due.fault(0, head + v / 10 + v % 10 + "0;df3x9", head.length() + 2);
    }

    private static void lawFaults() {
        Due.fault(1, "", 0);
        Due.fault(1, " ", 1);
        Due.fault(1, "y", 1);
        Due.fault(1, "y:", 2);
        Due.fault(1, "y: ", 3);
        Due.fault(1, "x:1", 0);
        Due.fault(1, "y1", 1);
        Due.fault(1, "y:1", -1);
        Due.fault(1, " y : 1 ", -1);
        Due.fault(1, "y:1;", 4);
        Due.fault(1, "y:1;;", 4);
        Due.fault(1, "y:1;y:2", -1);
        Due.fault(1, "y:1y:2", 3);
        Due.fault(1, "y:m+h-f*d/k+n", -1);
        Due.fault(1, "y:x", 2);
        Due.fault(1, "y:1?2", 3);
        Due.fault(1, "y:m=1?2", -1);
        Due.fault(1, "y:m=1", 5);
        Due.fault(1, "y:m=1;y:2", 5);
        Due.fault(1, "y:m==1?2", 4);
        Due.fault(1, "y:m=1=2?3", 5);
        Due.fault(1, "y:m<1>2?3", 5);
        Due.fault(1, "y:m=1?", 6);
        Due.fault(1, "y:m=1?2?3", 7);
        Due.fault(1, "y:m=1?2=3", 7);
        Due.fault(1, "y:m=1?!2", 6);
        Due.fault(1, "y:m=1?(2)", 6);
        Due.fault(1, "y:m=1&h=2|!k=3?4", -1);
        Due.fault(1, "y:m&h=2?4", 3);
        Due.fault(1, "y:m=1&?4", 6);
        Due.fault(1, "y:m=1|", 6);
        Due.fault(1, "y:m=1&h?4", 7);
        Due.fault(1, "y:(m=1)?4", -1);
        Due.fault(1, "y:(m=1)", 7);
        Due.fault(1, "y:(m=1", 6);
        Due.fault(1, "y:(m)=1?4", 4);
        Due.fault(1, "y:()?4", 3);
        Due.fault(1, "y:(m=1))?4", 7);
        Due.fault(1, "y:m=1)?4", 5);
        Due.fault(1, "y:(m=1)+1?4", 7);
        Due.fault(1, "y:(m=1)=1?4", 7);
        Due.fault(1, "y:!m=1?4", -1);
        Due.fault(1, "y:!m", 4);
        Due.fault(1, "y:!m;y:1", 4);
        Due.fault(1, "y:![m]=1?4", -1);
        Due.fault(1, "y:[m]", -1);
        Due.fault(1, "y:[m", 4);
        Due.fault(1, "y:[m)", 4);
        Due.fault(1, "y:m]", 3);
        Due.fault(1, "y:[]", 3);
        Due.fault(1, "y:[m=1]?2", 4);
        Due.fault(1, "y:[!m=1]?2", 3);
        Due.fault(1, "y:(m=[1)]?2", 7);
        Due.fault(1, "y:-1", 2);
        Due.fault(1, "y:1+-1", 4);
        Due.fault(1, "y:1++1", 4);
        Due.fault(1, "y:1+", 4);
        Due.fault(1, "y:1 2", 4);
        Due.fault(1, "y:9999", -1);
        Due.fault(1, "y:00001", 6);
        Due.fault(1, "y:12345", 6);
        Due.fault(1, "y:1234 5", 7);
        Due.fault(1, "y:mh", 3);
        Due.fault(1, "y:m1", 3);
        Due.fault(1, "y:1m", 3);
        Due.fault(1, "y:m=1?2;y:!(h<3|[k]>4)&n=0?[d+1]*2;y:f", -1);
    }

    private static void lawDepth() {
        Due.fault(1, "y:[[[[[[1]]]]]]", -1);
        Due.fault(1, "y:[[[[[[[1]]]]]]]", 8);
        Due.fault(1, "y:((((((1=1))))))?1", -1);
        Due.fault(1, "y:(((((((1=1)))))))?1", 8);
        Due.fault(1, "y:!!!!!!1=1?1", -1);
        Due.fault(1, "y:!!!!!!!1=1?1", 8);
        Due.fault(1, "y:!(!(!([1]=1)))?1", 8);
        Due.fault(1, "y:!(!(!(1=1)))?1", -1);
        Due.fault(1, "y:!(!(![1]=1))?1", -1);
        Due.fault(1, "y:!(!(![[1]]=1))?1", 8);
        Due.fault(1, "y:!!!!!1=[1]?[[[[[[1]]]]]]", -1);
        Due.fault(1, "y:!!!!!1=[[1]]?1", 10);
        // behind its unit a ! is no longer open
        Due.fault(1, "y:!!!!!!1=1&!!!!!!1=1?1", -1);
        Due.fault(1, "y:!!!!!!1=1&[[[[[[1]]]]]]=1?1", -1);
        Due.fault(1, "y:[[[[[[1]]]]]]+[[[[[[1]]]]]]", -1);
        Due.fault(1, "y:[[[[[[1]]]]]]+[[[[[[[1]]]]]]]", 22);
    }

    private static void roundFaults() {
        Due.fault(2, "", 0);
        Due.fault(2, "  ", 2);
        Due.fault(2, "0", -1);
        Due.fault(2, "7", -1);
        Due.fault(2, "8", 0);
        Due.fault(2, "9", 0);
        Due.fault(2, " 7 0 ", -1);
        Due.fault(2, "70127", 4);
        Due.fault(2, "7 6 5 4 3 2 1 0", -1);
        Due.fault(2, "765432100", 8);
        Due.fault(2, "0;1", 1);
        Due.fault(2, "0a", 1);
        Due.fault(-1, "0", -2);
        Due.fault(3, "0", -2);
        Due.fault(Integer.MIN_VALUE, "0", -2);
    }

    private static void texts() {
        TeaTrolley x = new TeaTrolley();
        Due.tell(x, 0, "d;dx2;", -1);
        Due.is("tape stays", x.count(3), 6);
        Due.tell(x, 1, "y:1;", -1);
        Due.tell(x, 2, "00", -1);
        Due.tell(x, 3, "d;dx2", -1);
        Due.tell(x, -1, "d;dx2", -1);
        Due.is("tape stays", x.count(3), 5);
        Due.is("nothing came of it", x.count(0) + x.count(1) + x.count(2), 0);
        for (int i = 0; i < 4; i++) {
            Due.tell(x, 1, "y:" + i, i);
            Due.is("empty", x.count(3), 0);
            Due.tell(x, 2, " " + (7 - i) + " " + i, i);
            Due.is("empty", x.count(3), 0);
        }
        Due.tell(x, 1, "y:4", -1);
        Due.tell(x, 2, "5", -1);
        Due.is("tape stays", x.count(3), 1);
        Due.is("laws", x.count(1), 4);
        Due.is("rounds", x.count(2), 4);
        Due.is("round 3", x.round(3, 0), 4);
        Due.is("round 3", x.round(3, 1), 3);
        Due.is("round 3", x.round(3, 2), -1);
        Due.tell(x, 0, "d;dx2;df3", 3);
        Due.is("rooms", x.count(0), 3);
        Due.is("none holds by itself", x.count(4), -1);
        Due.is("none holds by itself", x.count(5), -1);
    }

    private static void newOffice() {
        TeaTrolley x = Due.office("sh70k9p2;dx2w3;df1;dw1x7", "210");
        Due.tell(x, 1, "y:1", 0);
        Due.is("law", x.law(0), true);
        Due.is("wobble", x.wobble(4), true);
        Due.is("seen", x.seen(0, 5, true), 1);
        Due.is("day", x.day(), 6);
        x.hold(-1);
        x.day();
        x.hold(0);
        Due.is("frost ahead", x.room(0, 5), 1);
        Due.is("seen", x.seen(1, 99, false), 2);
        Due.is("shut", x.shut(1), true);
        Due.is("image", x.image(), 2);
        Due.tell(x, 0, "d;d", -1);
        Due.is("a fault changes nothing", x.count(0), 3);
        Due.is("a fault changes nothing", x.count(6), 2);
        Due.is("a fault changes nothing", x.count(10), 2);
        Due.tell(x, 0, "dw1;dx9w8", 2);
        int[] counts = {2, 1, 1, 0, 0, 0, 0, 0, 9, 4, 0, 0, 0, 0};
        for (int i = 0; i < counts.length; i++) {
            Due.is("count " + i, x.count(i), counts[i]);
        }
        Due.is("back", x.back(), -1);
        Due.is("undo", x.undo(), -1);
        Due.is("log", x.log(0, 0), -1);
        Due.is("fits", x.fits(-1), 2);
        Due.is("rules untold", x.rule(0), 60);
        Due.is("rules untold", x.rule(2), 1);
        Due.is("frost", x.room(0, 5), 0);
        Due.is("frost", x.room(1, 5), 0);
        Due.is("the law and the round still hold", x.comes(0, 1), 58);
        Due.is("room 2 is passed over", x.comes(1, 0), 9);
    }
}
