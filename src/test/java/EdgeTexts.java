/** Part 1 of the Terms, sentence by sentence: offices, laws and rounds as texts, and where they are wrong. */
final class EdgeTexts {
    private EdgeTexts() {
    }

    static void run() {
        clauses();
        items();
        ruleBounds();
        roomBounds();
        lawClauses();
        conditions();
        sums();
        depth();
        numbersOfLaws();
        worth();
        rounds();
        blanks();
        endsTooEarly();
        faultsOfOffices();
        faultsOfOthers();
    }

    private static void says(String words) {
        Doc.says(Doc.TERMS, words);
    }

    /** These texts of a sort have no fault. */
    private static void fine(int sort, String... texts) {
        for (String text : texts) {
            Due.fault(sort, text, -1);
        }
    }

    /** The fault is where the # stands. */
    private static void wrongAt(int sort, String... marked) {
        for (String text : marked) {
            Due.fault(sort, text.replace("#", ""), text.indexOf('#'));
        }
    }

    // ---- offices ----

    private static void clauses() {
        says("An OFFICE is a TEXT: CLAUSES with ; between:");
        fine(0, "d;dx2", "s;d;dx2");
        wrongAt(0, "d #dx2", "d#,dx2", "d#:dx2", "#;d;dx2", "d;#;dx2", "d;dx2;#", "#D;dx2", "#e;dx2", "#1;d");
        says("s (its RULES; one at most),");
        fine(0, "d;dx2", "s;d;dx2");
        wrongAt(0, "s;#s;d;dx2", "s;d;#s;dx2", "s;d;dx2;#s", "sh50;d;dx2;#sc2");
        says("d (a ROOM; 2 .. 8),");
        TeaTrolley x = new TeaTrolley();
        Due.tell(x, 0, "d", -1);
        Due.tell(x, 0, "d;dx2", 2);
        Due.tell(x, 0, "dx0;dx1;dx2;dx3;dx4;dx5;dx6;dx7", 8);
        Due.is("all eight are there", x.room(7, 1), 7);
        Due.tell(x, 0, "dx0;dx1;dx2;dx3;dx4;dx5;dx6;dx7;dx8", -1);
        Due.is("a ninth changes nothing", x.count(0), 8);
        says("in any order,");
        fine(0, "s;d;dx2", "d;s;dx2", "d;dx2;s");
        Due.is("rules told last", Due.office("d;dx2;sh33").rule(0), 33);
        Due.is("rules told between", Due.office("d;sh33;dx2").rule(0), 33);
        TeaTrolley y = Due.office("df1;s;dx7;df2");
        Due.is("rooms are numbered as told", y.room(0, 0), 1);
        Due.is("rooms are numbered as told", y.room(1, 1), 7);
        Due.is("rooms are numbered as told", y.room(2, 0), 2);
    }

    private static void items() {
        says("then ITEMS, none or more:");
        fine(0, "s;d;df1", "sh10c0p1k1;df3x9w9n99s9;ds0n0w0x0f0", "sk60p5c9h99;dn1f1;dx9s9");
        says("a letter, each once at most in a CLAUSE,");
        fine(0, "dx1;dx2", "dx1w1;dx2w1", "sp1;ds1;dx2s1");
        wrongAt(0, "dx1#x2;d", "dx1w1#x2;d", "dx1#x1;d", "sh50#h50;d", "sh50c1p1k1#h50;d", "df1x1w1n1s1#f1;d");
        wrongAt(0, "s#f1;d", "s#x1;d", "s#w1;d", "s#n1;d", "s#s1;d", "d#h50;d", "d#c1;d", "d#p1;d", "d#k1;d");
        wrongAt(0, "s#y1;d", "d#X1;d", "d#:1;d", "d#1;d", "d#d;d");
        says("and a number (one or two digits):");
        fine(0, "dx2;d", "dx02;d", "dx00;d", "dn07;df1");
        wrongAt(0, "dx#;d", "dx#", "dx#w1;d", "dx#-1;d", "dx#+1;d", "dx00#2;d", "dn10#0;d", "dx#/;d", "dx#:;d");
    }

    /** Bounds of a rule, and what it is if it is not told. */
    private static void rule(String words, String letter, int what, int least, int most, int without) {
        says(words);
        Due.is("without", Due.office("s;df1x9;df2x8").rule(what), without);
        Due.is("without s", Due.office("df1x9;df2x8").rule(what), without);
        for (int v : new int[] {least, without, most}) {
            Due.is("told " + v, Due.office("s" + letter + v + ";df1x9;df2x8").rule(what), v);
        }
        outOfBounds("s" + letter, least, most);
    }

    private static void room(String words, String letter, int what, int least, int most, int without) {
        says(words);
        Due.is("without", Due.office("d;df1x9;df2x8").room(0, what), without);
        for (int v : new int[] {least, without, most}) {
            Due.is("told " + v, Due.office("d" + letter + v + ";df1x9;df2x8").room(0, what), v);
        }
        outOfBounds("d" + letter, least, most);
    }

    private static void outOfBounds(String head, int least, int most) {
        for (int v = 0; v <= 99; v++) {
            if (v < least || v > most) {
                Due.fault(0, head + v + ";df1x9;df2x8", head.length() + (v > 9 ? 1 : 0));
                Due.fault(0, head + v / 10 + v % 10 + ";df1x9;df2x8", head.length() + 1);
            } else {
                fine(0, head + v / 10 + v % 10 + ";df1x9w5;df2x8");
            }
        }
        Due.fault(0, head + "100;df1x9;df2x8", head.length() + 2);
    }

    private static void ruleBounds() {
        rule("of s: h HEAT of the URN as it sets out (10 .. 99; 60 without),", "h", 0, 10, 99, 60);
        rule("c by how much it COOLS a minute (0 .. 9; 1),", "c", 1, 0, 9, 1);
        rule("p PACE: minutes a step (1 .. 5; 1),", "p", 2, 1, 5, 1);
        rule("k CUPS (1 .. 60; 20);", "k", 3, 1, 60, 20);
    }

    private static void roomBounds() {
        room("of d: f FLOOR (0 .. 3; 0),", "f", 0, 0, 3, 0);
        room("x how many steps it is from the lift (0 .. 9; 1),", "x", 1, 0, 9, 1);
        room("w WORKERS (0 .. 9; 2),", "w", 2, 0, 9, 2);
        room("n how HOT they want it (0 .. 99; 30),", "n", 3, 0, 99, 30);
        room("s minutes that it STOPS (0 .. 9; 1).", "s", 4, 0, 9, 1);
    }

    // ---- laws ----

    private static void lawClauses() {
        says("LAWS (4 at most) are TEXTS:");
        TeaTrolley x = new TeaTrolley();
        for (int i = 0; i < 4; i++) {
            Due.tell(x, 1, "y:" + i, i);
        }
        Due.tell(x, 1, "y:4", -1);
        Due.is("four", x.count(1), 4);
        says("CLAUSES with ; between, one at least:");
        fine(1, "y:1", "y:1;y:2", "y:m=1?1;y:2;y:3");
        wrongAt(1, "#", " #", "y:1;#", "#;y:1", "y:1;#;y:2", "y:1#y:2", "y:1 #y:2", "y:1#,y:2");
        says("y, : , perhaps CONDITION ?, then SUM.");
        fine(1, "y:1", "y:m=1?1");
        wrongAt(1, "#x:1", "#Y:1", "y#1", "y#;y:1", "y:#", "y:#;y:1", "y:#?1", "y:m=1?#", "y:m=1?#;y:1", "y:m=1#;y:1",
            "y:m=1?1#?1", "y:m=1?1#=1", "y:1#?1", "y:#:1", "y#y:1");
    }

    private static void conditions() {
        says("CONDITION: TRUTHS with | between;");
        fine(1, "y:m=1|m=2?3", "y:m=1|m=2|m=3?4", "y:m=1&m=2|m=3?4");
        wrongAt(1, "y:#|m=1?2", "y:m=1|#|m=2?3", "y:m=1|#?3", "y:m=1|#", "y:m#|m=1?2", "y:m=1|m#?2");
        says("TRUTH: UNITS with & between;");
        fine(1, "y:m=1&m=2?3", "y:m=1&m=2&m=3?4");
        wrongAt(1, "y:#&m=1?2", "y:m=1&#&m=2?3", "y:m=1&#?3", "y:m=1&#", "y:m#&m=1?2", "y:m=1&m#?2", "y:m=1&#|m=1?2");
        cools("y:0=0|0=0&0=1?5;y:6", 5);
        cools("y:0=1&0=0|0=0?5;y:6", 5);
        cools("y:0=1&0=0|0=1?5;y:6", 6);
        says("UNIT: ! UNIT, ( CONDITION ), or SUM, one of = < >, SUM.");
        fine(1, "y:!m=1?2", "y:!!m=1?2", "y:(m=1)?2", "y:!(m=1|m=2)?2", "y:(!m=1)?2", "y:1+1<2*2?2", "y:m>[1]?2");
        wrongAt(1, "y:!#?2", "y:!#", "y:(#)?2", "y:(m=1#?2", "y:(m=1#", "y:(m=1)#)?2", "y:m#!1?2", "y:m=#=1?2",
            "y:m<#>1?2", "y:m=1#=1?2", "y:m=1#!?2", "y:m=1#(m=1)?2", "y:(m=1)#(m=1)?2", "y:(m=1)#=1?2", "y:(m=1)#+1?2",
            "y:m=#?1", "y:m=#", "y:m=#!m=1?2", "y:m=#(1)?2", "y:(m=1#]?2");
        cools("y:!0=1&0=1?5;y:6", 6);
        cools("y:!0=1&0=0?5;y:6", 5);
        cools("y:0=0&0<1&1>0&!0=1&(0=0)?5;y:6", 5);
        cools("y:0=1|0<0|1>1|!0=0|(0=1)?5;y:6", 6);
        cools("y:!(0=1&0=1)?5;y:6", 5);
        cools("y:!0=1|0=0?5;y:6", 5);
        cools("y:!!0=1?5;y:6", 6);
        cools("y:m=5?5;y:6", 5);
        cools("y:m=4?5;y:6", 6);
        cools("y:m<5?5;y:6", 6);
        cools("y:m<6?5;y:6", 5);
        cools("y:m>5?5;y:6", 6);
        cools("y:m>4?5;y:6", 5);
        says("(A CLAUSE that goes on with ! or ( behind its : has a CONDITION.)");
        wrongAt(1, "y:!m#", "y:!m#;y:1", "y:!m+1#", "y:(m#)", "y:(m#)+1", "y:(m=1)#", "y:(m=1)#;y:1",
            "y:!m=1#", "y: ! m=1 #", "y: (m=1) #");
    }

    private static void sums() {
        says("SUM: TERMS with + or - between;");
        fine(1, "y:1+2-3", "y:m*2+3/m");
        wrongAt(1, "y:#+1", "y:#-1", "y:1+#", "y:1-#", "y:1+#+1", "y:1-#-1", "y:1+#-1", "y:1+#;y:1");
        cools("y:20-5-3", 12);
        cools("y:20-5+3", 18);
        cools("y:2+3*4", 14);
        cools("y:20-6/2", 17);
        says("TERM: ATOMS with * or / between;");
        fine(1, "y:1*2/3", "y:m*h");
        wrongAt(1, "y:#*1", "y:#/1", "y:1*#", "y:1/#", "y:1*#*1", "y:1/#*1", "y:1*#-1", "y:m#m", "y:m#1", "y:1#m");
        cools("y:40/4/5", 2);
        cools("y:40/4*5", 50);
        cools("y:7*3/2", 10);
        cools("y:7/2*3", 9);
        says("ATOM: a number (1 to 4 digits), a letter (m h f d k n), [ SUM ].");
        fine(1, "y:0", "y:9", "y:99", "y:999", "y:9999", "y:0000", "y:m+h+f+d+k+n", "y:[1]", "y:[1+[2*m]]");
        wrongAt(1, "y:1234#5", "y:0000#0", "y:#x", "y:#s", "y:#y", "y:#M", "y:[#]", "y:[1#", "y:[1#)", "y:1#]",
            "y:[1]#]", "y:[1]#[1]", "y:[1]#1", "y:1#[1]", "y:[m#=1]?1", "y:[#!m=1]?1", "y:[#(1)]",
            "y:m=1?#(1)", "y:m=1?#!1");
        cools("y:20-[5-3]", 18);
        cools("y:[2+3]*4", 20);
    }

    private static void depth() {
        says("At most six of ( [ ! within one another.");
        fine(1, "y:[[[[[[1]]]]]]", "y:((((((1=1))))))?1", "y:!!!!!!1=1?1", "y:(((![[1]]=1)))?1", "y:!(!(![1]=1))?1");
        wrongAt(1, "y:[[[[[[#[1]]]]]]]", "y:((((((#(1=1)))))))?1", "y:!!!!!!#!1=1?1", "y:((((((#[1]=1))))))?1",
            "y:((((((#!1=1))))))?1", "y:!!!!!!#(1=1)?1", "y:!!!!!!#[1]=1?1", "y:!!!!!1=[#[1]]?1",
            "y:1=1?[[[[[[#[1]]]]]]]", "y:1;y:[[[[[[#[1]]]]]]]");
        // one after another they are not within one another
        fine(1, "y:[[[[[[1]]]]]]+[[[[[[1]]]]]]*[[[[[[1]]]]]]", "y:((((((1=1))))))&((((((1=1))))))|((((((1=1))))))?1",
            "y:!!!!!!1=1&!!!!!!1=1|!!!!!!1=1?1", "y:!!!!!!1=1?[[[[[[1]]]]]]", "y:[[[[[[1]]]]]]=[[[[[[1]]]]]]?1",
            "y:!!!!!!1=1?1;y:!!!!!!1=1?1", "y:(((((1=1)&(1=1)|!1=[1]))))?1");
    }

    /** By how much this law cools on a way of m 5, h 99, f 0, d 5, k 7, n 0. */
    private static void cools(String law, int due) {
        TeaTrolley x = Due.office("sh99k7;dx5;dx0", "0");
        Due.law(x, law);
        Due.is(law, 99 - x.comes(0, 1), due);
    }

    private static void numbersOfLaws() {
        says("Behind each sign numbers are within -1,000,000 .. 1,000,000;");
        // up to the bound nothing is cut
        cools("y:1000*1000-9999*100-50", 50);
        cools("y:1000*999+999+1-9999*100-50", 50);
        cools("y:0-1000*999-1000+9999*100+150", 50);
        // beyond it all is, behind each sign
        cools("y:9999*9999-9999*100-50", 50);
        cools("y:[0-9999]*9999+9999*100+150", 50);
        cools("y:[0-9999]*[0-9999]-9999*100-50", 50);
        cools("y:1000*1000+1-9999*100-50", 50);
        cools("y:1000*1000+9999-9999-9999*100-50+9999", 50);
        cools("y:0-1000*1000-1+9999*100+150", 50);
        cools("y:0-1000*1000-9999+9999*100+150", 50);
        cools("y:9999*9999*9999*9999/9999-50", 50);
        cools("y:9999*9999>1000*1000?1;y:9999*9999=1000*1000?2;y:3", 2);
        says("/ cuts towards 0,");
        cools("y:7/2", 3);
        cools("y:[0-7]/2+10", 7);
        cools("y:7/[0-2]+10", 7);
        cools("y:[0-7]/[0-2]+10", 13);
        cools("y:[0-1]/2+10", 10);
        cools("y:8/9", 0);
        says("by 0 gives 0.");
        cools("y:5/0+4", 4);
        cools("y:0/0+4", 4);
        cools("y:4+[0-5]/[m-m]", 4);
        cools("y:5/0*9+4", 4);
    }

    private static void worth() {
        says("WORTH of a LAW: the SUM of the first CLAUSE whose CONDITION holds (or has none), 0 without.");
        cools("y:m=5?7;y:m=5?8;y:9", 7);
        cools("y:m=6?7;y:m=5?8;y:9", 8);
        cools("y:m=6?7;y:m=4?8;y:9", 9);
        cools("y:9;y:m=5?7", 9);
        cools("y:m=6?7", 0);
        cools("y:m=6?7;y:m=4?8", 0);
    }

    // ---- rounds ----

    private static void rounds() {
        says("ROUNDS (4 at most) are TEXTS:");
        TeaTrolley x = new TeaTrolley();
        for (int i = 0; i < 4; i++) {
            Due.tell(x, 2, "" + i, i);
        }
        Due.tell(x, 2, "4", -1);
        Due.is("four", x.count(2), 4);
        says("digits 0 .. 7, 1 to 8, no digit twice:");
        fine(2, "0", "7", "01234567", "76543210");
        wrongAt(2, "#", "#8", "#9", "#/", "#:", "#a", "#-1", "0#,1", "0#0", "0123456#6", "01234567#0", "01234567#8");
        says("ROOMS in the order in which it comes there (a ROOM that is not there is passed over).");
        TeaTrolley y = Due.office("sk5;dx1w3;dx5w3", "10");
        Due.is("1 first", y.comes(1, 0), 5);
        Due.is("then 0", y.comes(0, 0), 10);
        Due.is("what is left there", y.comes(0, 2), 2);
        Due.hold(y, "71203");
        Due.is("7 is passed over", y.comes(1, 0), 5);
        Due.is("2 is passed over", y.comes(0, 0), 10);
        Due.is("3 is passed over", y.all(2), 11);
        Due.hold(y, "2");
        Due.is("none of it is there", y.all(4), 3);
        Due.is("none of it is there", y.day(), 0);
        Due.is("no minute", y.log(0, 2), 0);
    }

    // ---- blanks and faults ----

    private static void blanks() {
        says("Blanks (32) may stand between all signs of these,");
        fine(0, "  s  h 10  c 1 ;  d  x 2  ; d  ", " d;dx2", "d;dx2 ", "d ;dx2", "d; dx2", "d;d x2", "d;dx 2");
        fine(1, "  y  :  m  =  1  &  !  (  h  <  2  |  [  3  ]  >  4  )  ?  5  *  6  ;  y  :  7  ");
        fine(2, "  0 1  2 ", " 7");
        for (int other : new int[] {9, 10, 13, 31, 33, 160}) {
            wrongAt(0, "#" + (char) other + "d;dx2", "d#" + (char) other + ";dx2", "d;dx2#" + (char) other);
            wrongAt(1, "#" + (char) other + "y:1", "y:1#" + (char) other);
            wrongAt(2, "#" + (char) other + "0", "0#" + (char) other);
        }
        says("not within numbers (between digits of a ROUND they may).");
        wrongAt(0, "sh10 #0;d;dx2", "sh#1 0;d;dx2", "dx1 #2;d", "dn1 #0 0;d");
        wrongAt(1, "y:1 #2", "y:m=1 #2?3", "y:1234 #5");
        fine(2, "1 2", "1  2 3");
        TeaTrolley x = new TeaTrolley();
        Due.tell(x, 2, " 1 2 ", 0);
        Due.is("two rooms", x.round(0, 1), 2);
    }

    private static void endsTooEarly() {
        says("FAULT: the first byte at which no such TEXT can go on");
        wrongAt(0, "d;d;#z;d;d", "#\u00ff", "d#\u0080");
        wrongAt(1, "y:1;#z;y:", "y:1#\u00ff");
        wrongAt(2, "01#z0", "#\u00b0");
        says("(the length, if it ends too early,");
        wrongAt(0, "#", "  #", "s#", "d;#", "d; #", "d;dx#", "d;dx #", "d;dx2;#", "d;dx2;  #");
        wrongAt(1, "#", "y#", "y:#", "y:  #", "y:m=1#", "y:m=1?#", "y:[1#", "y:(1=1#", "y:1+#", "y:1;#", "y:1; #");
        wrongAt(2, "#", "   #");
        says("with fewer than two ROOMS,");
        wrongAt(0, "d#", "d   #", "dx3#", "s#", "s;d#", "d;s#", "sh50;dx3w2 #");
        says("or two ROOMS on one FLOOR as many steps from the lift):");
        wrongAt(0, "d;d#", "d;dx1#", "d;df0x01 #", "df2x5;d;df2x5;s#", "dx3;df3;dx4;dx3w9#",
            "dx0;dx1;dx2;dx3;dx4;dx5;dx6;dx0#", "dx0;dx1;dx2;dx3;dx4;dx5;dx6;dx6#");
        fine(0, "d;df1", "d;dx2", "df2x5;df3x5;df2x4");
        wrongAt(0, "d;d;#z", "d;d#,");
    }

    private static void faultsOfOffices() {
        says("a number out of bounds is wrong at its last digit,");
        wrongAt(0, "sh#9;d;dx2", "sh#9", "sh0#9;d;dx2", "sc1#0;d", "sp#0;d", "sp#6;d", "sp9#9;d", "sk#0;d", "sk0#0;d",
            "sk6#1;d", "df#4;d", "df1#0;d", "dx1#0;d", "dw1#0;d", "ds9#9", "sh#9 ;d");
        says("a third digit (whatever stands ahead of it; a fifth one in a LAW) itself,");
        wrongAt(0, "sh10#0;d", "sh00#0;d", "sh01#0;d", "sp00#1;d", "df99#9;d", "dx00#0", "dn12#3456;d");
        wrongAt(1, "y:1234#5", "y:0000#1", "y:9999#99", "y:m=0000#0?1", "y:[1234#5]");
        says("a letter that was there,");
        wrongAt(0, "dx2#x", "dx2#x3;d", "sh50c1#h60;d", "ds1#s1;d");
        says("a second s,");
        wrongAt(0, "s;#s", "sh20;d;dx2; #sh20", "d;s;#s;dx2");
        says("a ninth d,");
        wrongAt(0, "d;d;d;d;d;d;d;d;#d", "dx0;dx1;s;dx2;dx3;dx4;dx5;dx6;dx7;#d", "d;d;d;d;d;d;d;d; #dx2");
        fine(0, "dx0;dx1;dx2;dx3;dx4;dx5;dx6;dx7;s");
    }

    private static void faultsOfOthers() {
        says("a digit of a ROUND that was there or is above 7,");
        wrongAt(2, "0#0", "0 #0", "701234#7", "#8", "0#9", "01234567#1", "01234567 #9");
        says("a seventh of ( [ ! in a LAW at it.");
        wrongAt(1, "y:!!!!!!#!m=1?1", "y:((((((#(m=1)))))))?1", "y:[[[[[[#[m]]]]]]]", "y:!(!(!(#[m]=1)))?1",
            "y:!!!!!! #!");
    }
}
