/** What the tests share: counting wrong answers, and telling texts to a trolley. */
final class Due {
    private static int right = 0;
    private static int wrong = 0;
    private static String where = "";

    private Due() {
    }

    /** What stands ahead of each wrong answer that is printed from here on. */
    static void where(String words) {
        where = words;
    }

    static void is(String call, long got, long want) {
        if (got == want) {
            right++;
        } else {
            wrong++;
            System.out.println(where + call + " answered " + got + ", due is " + want);
        }
    }

    static void is(String call, boolean got, boolean want) {
        is(call, got ? 1 : 0, want ? 1 : 0);
    }

    static void is(String call, String got, String want) {
        is(call + " (it answered " + got + ")", got.equals(want), true);
    }

    /** Prints the count; leaves with 1, if an answer was wrong. */
    static void close(String test) {
        System.out.println(test + ": " + right + " right, " + wrong + " wrong");
        if (wrong != 0 || right == 0) {
            System.exit(1);
        }
    }

    /** Five numbers from which the tape takes the text's signs (20 at most). */
    static int[] numbers(String text) {
        int[] all = new int[5];
        for (int i = 0; i < text.length(); i++) {
            all[i / 4] |= (text.charAt(i) & 255) << 24 - 8 * (i % 4);
        }
        return all;
    }

    /** The tape is this text and nothing else. */
    static void tape(TeaTrolley x, String text) {
        is("end(0)", x.end(0), true);
        for (int i = 0; i < text.length(); i += 20) {
            String part = text.substring(i, Math.min(text.length(), i + 20));
            int[] n = numbers(part);
            is("feed " + part, x.feed(n[0], n[1], n[2], n[3], n[4]), i + part.length());
        }
    }

    static void tell(TeaTrolley x, int sort, String text, int answer) {
        tape(x, text);
        is("text(" + sort + ") " + text, x.text(sort), answer);
    }

    static void fault(int sort, String text, int fault) {
        TeaTrolley x = new TeaTrolley();
        tape(x, text);
        is("fault(" + sort + ") '" + text + "'", x.fault(sort), fault);
        is("bytes behind fault", x.count(3), text.length());
    }

    static TeaTrolley office(String text) {
        TeaTrolley x = new TeaTrolley();
        int rooms = 0;
        for (int i = 0; i < text.length(); i++) {
            // a d that begins a clause, not the letter of a law
            rooms += text.charAt(i) == 'd' && (i == 0 || text.charAt(i - 1) == ';') ? 1 : 0;
        }
        tell(x, 0, text, rooms);
        return x;
    }

    /** An office and a round that holds. */
    static TeaTrolley office(String text, String round) {
        TeaTrolley x = office(text);
        tell(x, 2, round, 0);
        is("hold(0)", x.hold(0), true);
        return x;
    }

    /** One more law, which holds. */
    static void law(TeaTrolley x, String text) {
        int number = x.count(1);
        tell(x, 1, text, number);
        is("law(" + number + ")", x.law(number), true);
    }

    /** One more round, which holds. */
    static void hold(TeaTrolley x, String text) {
        int number = x.count(2);
        tell(x, 2, text, number);
        is("hold(" + number + ")", x.hold(number), true);
    }

    /** 1: it throws as the document says; 0: it answers. */
    static int refuses(TeaTrolley x, int room, int what) {
        try {
            x.room(room, what);
            return 0;
        } catch (java.util.NoSuchElementException e) {
            return 1;
        }
    }
}
