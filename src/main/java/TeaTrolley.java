import java.util.NoSuchElementException;

/** An office, its tea trolley and the days on which it goes its round (see ../shared/DOC.md). */
public final class TeaTrolley {
    public static final int NONE = -1;
    public static final int HIDDEN = -1000000;

    private static final int NO_SORT = -2;
    private static final int MOST_ROOMS = 8;
    private static final int MOST_TEXTS = 4;
    private static final int MOST_FLOOR = 3;
    private static final int MOST_PACE = 5;
    private static final int MOST_WORKERS = 9;
    private static final int LEAST_HEAT = 10;
    private static final int MOST_HEAT = 99;
    private static final int MOST_CUPS = 60;
    private static final int MOST_FROST = 9;
    private static final int ICE_FROST = 3;
    private static final int LAST_DAY = 9999;
    private static final int MOST_MINUTE = 999;
    private static final int MOST_CRUMBS = 200;
    private static final int MOST_BUNS = 999;
    private static final int MOST_WOBBLE = 9;
    private static final int MOST_DECADES = 60;
    private static final int FROST = 5;
    private static final int DOOR = 6;

    private final Tape tape = new Tape();
    private final OfficeText officeText = new OfficeText(tape);
    private final LawText lawText = new LawText(tape);
    private final int[] roundDraft = new int[MOST_ROOMS];
    private final Office office = new Office();
    private final State now = new State();
    private final Past past = new Past();
    private final Law[] laws = new Law[MOST_TEXTS];
    private final int[][] rounds = new int[MOST_TEXTS][MOST_ROOMS];
    private final Ways ways = new Ways(office, now);
    private final Walk walk = new Walk(ways);
    private final Search search = new Search(ways);
    private final Sightings sightings = new Sightings(ways);
    private int lawCount = 0;
    private int lawHeld = NONE;
    private int roundCount = 0;
    private int roundHeld = NONE;
    private int wobbling = 0;

    public TeaTrolley() {
        for (int i = 0; i < MOST_TEXTS; i++) {
            laws[i] = new Law();
        }
    }

    // ---- texts ----

    public int feed(int a, int b, int c, int d, int e) {
        return tape.take(a, b, c, d, e) ? tape.length : NONE;
    }

    public boolean end(int n) {
        return tape.cut(n);
    }

    public int fault(int sort) {
        switch (sort) {
            case 0:
                return officeText.read();
            case 1:
                return lawText.read();
            case 2:
                return readRound();
            default:
                return NO_SORT;
        }
    }

    public int text(int sort) {
        if (fault(sort) != NONE) {
            return NONE;
        }
        switch (sort) {
            case 0:
                return openOffice();
            case 1:
                return addLaw();
            default:
                return addRound();
        }
    }

    private int readRound() {
        int told = 0;
        int length = 0;
        for (int i = 0; i < MOST_ROOMS; i++) {
            roundDraft[i] = NONE;
        }
        for (int i = tape.pastBlanks(0); i < tape.length; i = tape.pastBlanks(i + 1)) {
            int room = tape.at(i) - '0';
            if (room < 0 || room >= MOST_ROOMS || has(told, room) || length >= MOST_ROOMS) {
                return i;
            }
            told |= 1 << room;
            roundDraft[length] = room;
            length++;
        }
        return length == 0 ? tape.length : NONE;
    }

    private int openOffice() {
        office.copy(officeText.draft);
        now.begin(office);
        past.forget();
        sightings.forget();
        search.forget();
        tape.cut(0);
        return office.rooms;
    }

    private int addLaw() {
        if (lawCount >= MOST_TEXTS) {
            return NONE;
        }
        laws[lawCount].copy(lawText.draft);
        tape.cut(0);
        lawCount++;
        return lawCount - 1;
    }

    private int addRound() {
        if (roundCount >= MOST_TEXTS) {
            return NONE;
        }
        System.arraycopy(roundDraft, 0, rounds[roundCount], 0, MOST_ROOMS);
        tape.cut(0);
        roundCount++;
        return roundCount - 1;
    }

    // ---- what is told, and what holds ----

    public int rule(int what) {
        if (noOffice()) {
            return NONE;
        }
        switch (what) {
            case 0:
                return now.heat;
            case 1:
                return office.rules[Office.COOLS];
            case 2:
                return now.pace;
            case 3:
                return now.cups;
            default:
                return NONE;
        }
    }

    public int room(int room, int what) throws NoSuchElementException {
        if (!isRoom(room) || what < 0 || what > DOOR) {
            throw new NoSuchElementException("no such room or trait");
        }
        switch (what) {
            case Office.WORKERS:
                return now.workers[room];
            case FROST:
                return now.frost[room];
            case DOOR:
                return has(now.doors, room) ? 1 : 0;
            default:
                return office.trait(room, what);
        }
    }

    public boolean law(int law) {
        if (law < NONE || law >= lawCount) {
            return false;
        }
        lawHeld = law;
        ways.law = law < 0 ? null : laws[law];
        search.forget();
        return true;
    }

    public boolean hold(int round) {
        if (round < NONE || round >= roundCount) {
            return false;
        }
        roundHeld = round;
        return true;
    }

    public int round(int round, int i) {
        if (!isRound(round) || i < 0 || i >= MOST_ROOMS) {
            return HIDDEN;
        }
        return rounds[round][i];
    }

    public boolean wobble(int v) {
        if (v < 0 || v > MOST_WOBBLE || v == wobbling) {
            return false;
        }
        wobbling = v;
        return true;
    }

    public int steps(int one, int other) {
        return isRoom(one) && isRoom(other) ? office.apart(one, other) : NONE;
    }

    // ---- acts ----

    public int day() {
        if (noOffice() || now.day >= LAST_DAY) {
            return NONE;
        }
        beginAct();
        passDay();
        return walk.hot;
    }

    public boolean shut(int room) {
        if (!isRoom(room) || has(now.doors, room)) {
            return false;
        }
        beginAct();
        now.doors |= 1 << room;
        return true;
    }

    public int wheels(boolean oil) {
        int pace = now.pace + (oil ? -1 : 1);
        if (noOffice() || pace < 1 || pace > MOST_PACE) {
            return NONE;
        }
        beginAct();
        now.pace = pace;
        return pace;
    }

    public int move(int from, int to, int n) {
        if (!isRoom(from) || !isRoom(to) || from == to || n < 1 || n > MOST_WORKERS) {
            return NONE;
        }
        if (now.workers[from] < n || now.workers[to] + n > MOST_WORKERS) {
            return NONE;
        }
        beginAct();
        now.workers[from] -= n;
        now.workers[to] += n;
        return now.workers[to];
    }

    public int fill(int what, int v) {
        if (noOffice()) {
            return NONE;
        }
        if (what == 0 && v >= LEAST_HEAT && v <= MOST_HEAT && v != now.heat) {
            beginAct();
            int was = now.heat;
            now.heat = v;
            return was;
        }
        if (what == 1 && v >= 1 && v <= MOST_CUPS && v != now.cups) {
            beginAct();
            int was = now.cups;
            now.cups = v;
            return was;
        }
        return NONE;
    }

    public int decades(int n, long seed) {
        if (noOffice() || n < 1 || n > MOST_DECADES || now.day + n > LAST_DAY) {
            return NONE;
        }
        long x = seed;
        for (int i = 0; i < n; i++) {
            beginAct();
            x = stir(x);
            int pace = now.pace + (draw(x, MOST_WOBBLE + 1) < wobbling ? 1 : -1);
            now.pace = within(pace, 1, MOST_PACE);
            x = stir(x);
            now.doors |= 1 << draw(x, office.rooms);
            if (roundCount > 0) {
                x = stir(x);
                roundHeld = draw(x, roundCount);
            }
            passDay();
        }
        return now.day;
    }

    private static long stir(long x) {
        return x * 6364136223846793005L + 1442695040888963407L;
    }

    private static int draw(long x, int choices) {
        return choices > 0 ? (int) ((x >>> 33) % choices) : 0;
    }

    public int undo() {
        if (past.undoable == 0) {
            return NONE;
        }
        past.stepBack(now);
        search.forget();
        return past.undoable;
    }

    public int log(int i, int what) {
        if (i < 0 || i >= logLength() || what < 0 || what > 2) {
            return NONE;
        }
        return past.noted(now.day - 1 - i, what);
    }

    public int image() {
        if (noOffice()) {
            return NONE;
        }
        past.keep(now);
        return now.day;
    }

    public int back() {
        if (!past.hasImage) {
            return NONE;
        }
        past.bringBack(now);
        search.forget();
        return now.day;
    }

    private void beginAct() {
        past.remember(now);
        search.forget();
    }

    private void passDay() {
        goRound();
        now.works += walk.hot;
        for (int room = 0; room < office.rooms; room++) {
            boolean served = walk.cupsAt(room) > 0;
            now.frost[room] = served ? 0 : Math.min(MOST_FROST, now.frost[room] + 1);
        }
        past.note(now.day, walk.tea, walk.hot, walk.whole);
        now.doors = 0;
        now.day++;
    }

    // ---- the round that holds, as it is now ----

    public int comes(int room, int what) {
        if (!comesTo(room)) {
            return NONE;
        }
        switch (what) {
            case 0:
                return walk.minutes[room];
            case 1:
                return walk.heats[room];
            case 2:
                return walk.cups[room];
            default:
                return NONE;
        }
    }

    public int shares(int room, int c) {
        if (!isRoom(room) || c < 0 || c > MOST_BUNS) {
            return NONE;
        }
        goRound();
        return walk.tea == 0 ? 0 : c * walk.cupsAt(room) / walk.tea;
    }

    public int crumbs(int e, int i) {
        if (noOffice() || e < 0 || e > MOST_CRUMBS || i < NONE) {
            return NONE;
        }
        goRound();
        int found = 0;
        for (int set = 0; set <= office.everyRoom(); set++) {
            if (!canHaveTwo(set) || walk.tea + cupsIn(set) != e) {
                continue;
            }
            if (found == i) {
                return set;
            }
            found++;
        }
        return i == NONE ? found : NONE;
    }

    private boolean canHaveTwo(int set) {
        for (int room = 0; room < office.rooms; room++) {
            if (has(set, room) && now.workers[room] == 0) {
                return false;
            }
        }
        return true;
    }

    private int cupsIn(int set) {
        int sum = 0;
        for (int room = 0; room < office.rooms; room++) {
            if (has(set, room)) {
                sum += walk.cupsAt(room);
            }
        }
        return sum;
    }

    public int game(int one, int other, int x, int y, int what) {
        if (!canPlay(one, other) || !isBit(x) || !isBit(y) || !isBit(what)) {
            return HIDDEN;
        }
        goRound();
        return what == 0 ? gain(one, x, y) : gain(other, y, x);
    }

    public int rests(int one, int other, int i) {
        if (!canPlay(one, other) || i < NONE) {
            return NONE;
        }
        goRound();
        int found = 0;
        for (int pair = 0; pair < 4; pair++) {
            int x = pair >> 1;
            int y = pair & 1;
            if (gain(one, 1 - x, y) > gain(one, x, y) || gain(other, 1 - y, x) > gain(other, y, x)) {
                continue;
            }
            if (found == i) {
                return 10 * x + y;
            }
            found++;
        }
        return i == NONE ? found : NONE;
    }

    private boolean canPlay(int one, int other) {
        return isRoom(one) && isRoom(other) && one != other;
    }

    private int gain(int room, int own, int others) {
        int warmth = walk.heatAt(room) / 10;
        if (own == 1) {
            return others == 1 ? warmth - 1 : warmth + 2;
        }
        return others == 1 ? warmth - 1 : warmth;
    }

    public int meet(int room, int what) {
        if (!isRoom(room) || !isBit(what)) {
            return NONE;
        }
        goRound();
        int place = NONE;
        for (int other = 0; other < office.rooms; other++) {
            boolean inTime = has(walk.came, other) && office.apart(room, other) <= walk.minutes[other];
            if (inTime && (place == NONE || walk.heats[other] > walk.heats[place])) {
                place = other;
            }
        }
        return place == NONE || what == 0 ? place : walk.heats[place];
    }

    public int thaw(int room) {
        if (!comesTo(room)) {
            return NONE;
        }
        int wanted = office.trait(room, Office.WANTED);
        for (int heat = LEAST_HEAT; heat <= MOST_HEAT; heat++) {
            walk.along(heldRound(), now.doors, heat);
            if (walk.heats[room] >= wanted) {
                return heat;
            }
        }
        return NONE;
    }

    public int odds(int room, int chance) {
        if (!isRoom(room) || chance < 0 || chance > 100) {
            return NONE;
        }
        goRound();
        return walk.partsHot(room, chance);
    }

    public int season(int room) {
        if (!isRoom(room)) {
            return NONE;
        }
        goRound();
        return Math.min(3, walk.heatAt(room) / 20);
    }

    public int all(int what) {
        if (noOffice()) {
            return NONE;
        }
        goRound();
        switch (what) {
            case 0:
                return walk.left;
            case 1:
                return now.workersOfAll() - walk.tea;
            case 2:
                return walk.whole;
            case 3:
                return coldest();
            case 4:
                return office.everyRoom() & ~walk.came;
            case 5:
                return ice();
            default:
                return NONE;
        }
    }

    private int coldest() {
        int place = NONE;
        for (int room = 0; room < office.rooms; room++) {
            if (has(walk.came, room) && (place == NONE || walk.heats[room] < walk.heats[place])) {
                place = room;
            }
        }
        return place;
    }

    private int ice() {
        int frozen = 0;
        for (int room = 0; room < office.rooms; room++) {
            if (now.frost[room] >= ICE_FROST) {
                frozen |= 1 << room;
            }
        }
        return frozen;
    }

    // ---- what could be ----

    public int best(int what) {
        if (noOffice() || !isBit(what)) {
            return NONE;
        }
        search.findBest();
        return what == 0 ? search.bestRow : search.bestHot;
    }

    public int shortest(int rooms, int what) {
        if (rooms < 1 || rooms > office.everyRoom() || !isBit(what)) {
            return NONE;
        }
        search.findShortest(rooms);
        return what == 0 ? search.shortRow : search.shortMinutes;
    }

    public int seat(int what) {
        if (noOffice() || !isBit(what)) {
            return NONE;
        }
        int pair = NONE;
        int most = NONE;
        for (int from = 0; from < office.rooms; from++) {
            for (int to = 0; to < office.rooms; to++) {
                int hot = hotIfMoved(from, to);
                if (hot > most) {
                    most = hot;
                    pair = 10 * from + to;
                }
            }
        }
        return what == 0 ? pair : most;
    }

    private int hotIfMoved(int from, int to) {
        if (from == to || now.workers[from] == 0 || now.workers[to] >= MOST_WORKERS) {
            return NONE;
        }
        now.workers[from]--;
        now.workers[to]++;
        goRound();
        now.workers[from]++;
        now.workers[to]--;
        return walk.hot;
    }

    public int happy(int round) {
        if (noOffice() || !isRound(round)) {
            return NONE;
        }
        walk.along(rounds[round], 0, now.heat);
        return walk.hot;
    }

    // ---- doors seen ----

    public int seen(int room, int t, boolean had) {
        if (!isRoom(room) || !isMinute(t)) {
            return NONE;
        }
        return sightings.add(room, t, had) ? sightings.told : NONE;
    }

    public int fits(int i) {
        if (noOffice() || i < NONE) {
            return NONE;
        }
        return i == NONE ? sightings.fitting() : sightings.fittingRow(i);
    }

    public int second() {
        if (noOffice()) {
            return NONE;
        }
        return sightings.fitting() == 0 ? 1 : 0;
    }

    public int ask(int t) {
        if (noOffice() || !isMinute(t)) {
            return NONE;
        }
        return sightings.evenest(t);
    }

    // ---- the office ----

    public int floor(int floor) {
        if (noOffice() || floor < 0 || floor > MOST_FLOOR) {
            return NONE;
        }
        int found = 0;
        for (int room = 0; room < office.rooms; room++) {
            if (office.trait(room, Office.FLOOR) == floor) {
                found |= 1 << room;
            }
        }
        return found;
    }

    public int nearest(int room) {
        if (!isRoom(room)) {
            return NONE;
        }
        int place = NONE;
        for (int other = 0; other < office.rooms; other++) {
            boolean nearer = place == NONE || office.apart(room, other) < office.apart(room, place);
            if (other != room && nearer) {
                place = other;
            }
        }
        return place;
    }

    public int count(int what) {
        switch (what) {
            case 0:
                return office.rooms;
            case 1:
                return lawCount;
            case 2:
                return roundCount;
            case 3:
                return tape.length;
            case 4:
                return lawHeld;
            case 5:
                return roundHeld;
            case 6:
                return now.day;
            case 7:
                return now.works;
            case 8:
                return now.workersOfAll();
            case 9:
                return wobbling;
            case 10:
                return sightings.told;
            case 11:
                return now.doors;
            case 12:
                return logLength();
            case 13:
                return past.undoable;
            default:
                return HIDDEN;
        }
    }

    // ---- small helps ----

    private boolean noOffice() {
        return office.rooms == 0;
    }

    private boolean isRoom(int room) {
        return room >= 0 && room < office.rooms;
    }

    private boolean isRound(int round) {
        return round >= 0 && round < roundCount;
    }

    private static boolean isBit(int v) {
        return v == 0 || v == 1;
    }

    private static boolean isMinute(int t) {
        return t >= 0 && t <= MOST_MINUTE;
    }

    private static boolean has(int set, int room) {
        return (set >> room & 1) == 1;
    }

    private static int within(int v, int least, int most) {
        return v < least ? least : v > most ? most : v;
    }

    private int[] heldRound() {
        return isRound(roundHeld) ? rounds[roundHeld] : null;
    }

    private void goRound() {
        walk.along(heldRound(), now.doors, now.heat);
    }

    private boolean comesTo(int room) {
        if (!isRoom(room)) {
            return false;
        }
        goRound();
        return has(walk.came, room);
    }

    private int logLength() {
        // every day leaves one entry and nothing else does, so the day tells the length
        return Math.min(Past.LOG_LENGTH, now.day);
    }

    /** The bytes that were fed and not yet made a text. */
    static final class Tape {
        static final int LIMIT = 240;
        static final int BLANK = 32;
        final int[] bytes = new int[LIMIT];
        int length = 0;

        boolean take(int a, int b, int c, int d, int e) {
            int more = signs(a) + signs(b) + signs(c) + signs(d) + signs(e);
            if (length + more > LIMIT) {
                return false;
            }
            put(a);
            put(b);
            put(c);
            put(d);
            put(e);
            return true;
        }

        private static int signs(int number) {
            int sum = 0;
            for (int shift = 24; shift >= 0; shift -= 8) {
                sum += (number >>> shift & 255) != 0 ? 1 : 0;
            }
            return sum;
        }

        private void put(int number) {
            for (int shift = 24; shift >= 0; shift -= 8) {
                int sign = number >>> shift & 255;
                if (sign != 0 && length < LIMIT) {
                    bytes[length] = sign;
                    length++;
                }
            }
        }

        boolean cut(int n) {
            if (n < 0 || n > length) {
                return false;
            }
            length = n;
            return true;
        }

        /** The byte there, NONE behind the last one. */
        int at(int i) {
            return i >= 0 && i < length ? bytes[i] : NONE;
        }

        int pastBlanks(int from) {
            int i = from;
            while (i < length && bytes[i] == BLANK) {
                i++;
            }
            return i;
        }

        /** How many digits stand there, counted up to most. */
        int digits(int from, int most) {
            int i = from;
            while (i < length && i < from + most && bytes[i] >= '0' && bytes[i] <= '9') {
                i++;
            }
            return i - from;
        }

        int number(int from, int digits) {
            int value = 0;
            for (int i = 0; i < digits; i++) {
                value = 10 * value + at(from + i) - '0';
            }
            return value;
        }
    }

    /** An office as its text tells it. */
    static final class Office {
        static final int HEAT = 0;
        static final int COOLS = 1;
        static final int PACE = 2;
        static final int CUPS = 3;
        static final int RULES = 4;
        static final int FLOOR = 0;
        static final int FROM_LIFT = 1;
        static final int WORKERS = 2;
        static final int WANTED = 3;
        static final int STOPS = 4;
        static final int TRAITS = 5;
        /** Stands for the lift on floor 0 where a room is expected. */
        static final int LIFT = MOST_ROOMS;
        private static final int STEPS_A_FLOOR = 3;
        private static final int[] RULES_UNTOLD = {60, 1, 1, 20};
        private static final int[] TRAITS_UNTOLD = {0, 1, 2, 30, 1};

        final int[] rules = new int[RULES];
        final int[] traits = new int[MOST_ROOMS * TRAITS];
        private final int[] distances = new int[(MOST_ROOMS + 1) * MOST_ROOMS];
        int rooms = 0;

        void clear() {
            System.arraycopy(RULES_UNTOLD, 0, rules, 0, RULES);
            rooms = 0;
        }

        void addRoom() {
            if (rooms < MOST_ROOMS) {
                System.arraycopy(TRAITS_UNTOLD, 0, traits, rooms * TRAITS, TRAITS);
                rooms++;
            }
        }

        boolean hasTwoInOnePlace() {
            for (int one = 0; one < rooms; one++) {
                for (int other = 0; other < one; other++) {
                    if (trait(one, FLOOR) == trait(other, FLOOR)
                            && trait(one, FROM_LIFT) == trait(other, FROM_LIFT)) {
                        return true;
                    }
                }
            }
            return false;
        }

        void copy(Office other) {
            System.arraycopy(other.rules, 0, rules, 0, RULES);
            System.arraycopy(other.traits, 0, traits, 0, MOST_ROOMS * TRAITS);
            rooms = other.rooms;
            for (int to = 0; to < rooms; to++) {
                for (int from = 0; from < rooms; from++) {
                    distances[from * MOST_ROOMS + to] = distance(trait(from, FLOOR), trait(from, FROM_LIFT), to);
                }
                distances[LIFT * MOST_ROOMS + to] = distance(0, 0, to);
            }
        }

        private int distance(int floor, int fromLift, int to) {
            if (floor == trait(to, FLOOR)) {
                return Math.abs(fromLift - trait(to, FROM_LIFT));
            }
            return fromLift + trait(to, FROM_LIFT) + STEPS_A_FLOOR * Math.abs(floor - trait(to, FLOOR));
        }

        int trait(int room, int which) {
            return traits[room * TRAITS + which];
        }

        int apart(int from, int to) {
            return distances[from * MOST_ROOMS + to];
        }

        int everyRoom() {
            return (1 << rooms) - 1;
        }
    }

    /** Reads the tape as an office. */
    static final class OfficeText {
        private static final int MOST_DIGITS = 2;
        private static final String RULE_LETTERS = "hcpk";
        private static final int[] RULE_LEAST = {LEAST_HEAT, 0, 1, 1};
        private static final int[] RULE_MOST = {MOST_HEAT, 9, MOST_PACE, MOST_CUPS};
        private static final String ROOM_LETTERS = "fxwns";
        private static final int[] ROOM_LEAST = {0, 0, 0, 0, 0};
        private static final int[] ROOM_MOST = {MOST_FLOOR, 9, MOST_WORKERS, 99, 9};

        final Office draft = new Office();
        private final Tape tape;
        private int pos = 0;

        OfficeText(Tape tape) {
            this.tape = tape;
        }

        /** The fault, or NONE: then the draft is what the tape tells. */
        int read() {
            draft.clear();
            boolean ruled = false;
            pos = tape.pastBlanks(0);
            for (int clause = 0; clause <= Tape.LIMIT; clause++) {
                boolean rules = tape.at(pos) == 's' && !ruled;
                boolean room = tape.at(pos) == 'd' && draft.rooms < MOST_ROOMS;
                if (!rules && !room) {
                    return pos;
                }
                ruled |= rules;
                if (!(rules ? readRules() : readRoom())) {
                    return pos;
                }
                if (pos >= tape.length) {
                    break;
                }
                pos = tape.pastBlanks(pos + 1);
            }
            return draft.rooms < 2 || draft.hasTwoInOnePlace() ? tape.length : NONE;
        }

        private boolean readRules() {
            return readItems(RULE_LETTERS, RULE_LEAST, RULE_MOST, draft.rules, 0);
        }

        private boolean readRoom() {
            draft.addRoom();
            int place = (draft.rooms - 1) * Office.TRAITS;
            return readItems(ROOM_LETTERS, ROOM_LEAST, ROOM_MOST, draft.traits, place);
        }

        /** Up to the next ; or the end; else false, and pos is the fault. */
        private boolean readItems(String letters, int[] least, int[] most, int[] into, int place) {
            int told = 0;
            pos = tape.pastBlanks(pos + 1);
            for (int items = 0; items <= letters.length(); items++) {
                if (pos >= tape.length || tape.at(pos) == ';') {
                    return true;
                }
                int item = letters.indexOf((char) tape.at(pos));
                if (item < 0 || has(told, item)) {
                    return false;
                }
                told |= 1 << item;
                pos = tape.pastBlanks(pos + 1);
                int value = readNumber(least[item], most[item]);
                if (value == NONE) {
                    return false;
                }
                into[place + item] = value;
            }
            return false;
        }

        /** The number there, behind which pos goes; or NONE, and pos is the fault. */
        private int readNumber(int least, int most) {
            int digits = tape.digits(pos, MOST_DIGITS + 1);
            if (digits == 0) {
                return NONE;
            }
            int value = tape.number(pos, digits);
            if (digits > MOST_DIGITS || value < least || value > most) {
                pos += digits - 1;
                return NONE;
            }
            pos = tape.pastBlanks(pos + digits);
            return value;
        }
    }

    /** A law in the order in which it is worked out: first the two sides, then their sign. */
    static final class Law {
        static final String LETTERS = "mhfdkn";
        static final int ADD = 10;
        static final int TAKE = 11;
        static final int TIMES = 12;
        static final int BY = 13;
        static final int SAME = 14;
        static final int LESS = 15;
        static final int MORE = 16;
        static final int AND = 17;
        static final int OR = 18;
        static final int NOT = 19;
        static final int ANSWER = 20;
        /** With a number told behind it. */
        static final int NUMBER = 100;
        /** With the place told to which it goes, if what stands ahead of it does not hold. */
        static final int UNLESS = 100000;
        private static final int BOUND = 1000000;
        private static final int DEEPEST = 40;

        private final int[] code = new int[Tape.LIMIT];
        private final int[] stack = new int[DEEPEST];
        private int size = 0;
        private int top = 0;

        void clear() {
            size = 0;
        }

        void copy(Law other) {
            System.arraycopy(other.code, 0, code, 0, other.size);
            size = other.size;
        }

        /** Where it was put. */
        int put(int sign) {
            if (size < code.length) {
                code[size] = sign;
                size++;
            }
            return size - 1;
        }

        /** The sign there goes to what is put next. */
        void aim(int place) {
            if (place >= 0 && place < size) {
                code[place] = UNLESS + size;
            }
        }

        /** Of the first clause that holds, by numbers for the letters; 0 without. */
        int worth(int[] letters) {
            top = 0;
            for (int i = 0; i < size; i++) {
                int sign = code[i];
                if (sign == ANSWER) {
                    return pop();
                }
                if (sign >= UNLESS) {
                    // it only goes on from here, so the loop ends; the loop itself adds the one
                    i = pop() != 0 ? i : Math.max(i, sign - UNLESS - 1);
                } else if (sign >= NUMBER) {
                    push(sign - NUMBER);
                } else if (sign >= 0 && sign < letters.length) {
                    push(letters[sign]);
                } else if (sign == NOT) {
                    push(pop() == 0 ? 1 : 0);
                } else {
                    int right = pop();
                    int left = pop();
                    push(joined(sign, left, right));
                }
            }
            return 0;
        }

        private static int joined(int sign, int left, int right) {
            switch (sign) {
                case ADD:
                    return within(left + right, -BOUND, BOUND);
                case TAKE:
                    return within(left - right, -BOUND, BOUND);
                case TIMES:
                    return (int) Math.max(-BOUND, Math.min(BOUND, (long) left * right));
                case BY:
                    return right == 0 ? 0 : left / right;
                case SAME:
                    return left == right ? 1 : 0;
                case LESS:
                    return left < right ? 1 : 0;
                case MORE:
                    return left > right ? 1 : 0;
                case AND:
                    return left & right;
                case OR:
                    return left | right;
                default:
                    return 0;
            }
        }

        private void push(int value) {
            if (top < stack.length) {
                stack[top] = value;
                top++;
            }
        }

        private int pop() {
            if (top <= 0) {
                return 0;
            }
            top--;
            return stack[top];
        }
    }

    /** Reads the tape as a law. Each reading method answers false at a fault, and pos is the fault then. */
    static final class LawText {
        private static final int MOST_DIGITS = 4;
        private static final int DEEPEST = 6;
        final Law draft = new Law();
        private final Tape tape;
        private int pos = 0;

        LawText(Tape tape) {
            this.tape = tape;
        }

        /** The fault, or NONE: then the draft is what the tape tells. */
        int read() {
            draft.clear();
            pos = tape.pastBlanks(0);
            for (int clause = 0; clause <= Tape.LIMIT; clause++) {
                if (!readClause()) {
                    return pos;
                }
                if (pos >= tape.length) {
                    return NONE;
                }
                goOn();
            }
            return pos;
        }

        private int here() {
            return tape.at(pos);
        }

        private void goOn() {
            pos = tape.pastBlanks(pos + 1);
        }

        private boolean readSign(int sign) {
            if (here() != sign) {
                return false;
            }
            goOn();
            return true;
        }

        private boolean readClause() {
            if (!readSign('y') || !readSign(':')) {
                return false;
            }
            boolean conditioned = here() == '!' || here() == '(';
            boolean begun = !conditioned;
            if (begun && !readSum(0)) {
                return false;
            }
            if (conditioned || comparison() != NONE) {
                return readCase(begun) && atClauseEnd();
            }
            draft.put(Law.ANSWER);
            return atClauseEnd();
        }

        private boolean atClauseEnd() {
            return pos >= tape.length || here() == ';';
        }

        private boolean readCase(boolean begun) {
            if (!readCondition(0, begun) || !readSign('?')) {
                return false;
            }
            int test = draft.put(Law.UNLESS);
            if (!readSum(0)) {
                return false;
            }
            draft.put(Law.ANSWER);
            draft.aim(test);
            return true;
        }

        /** Begun: its first sum has been read, as it could have been the clause's own. */
        private boolean readCondition(int depth, boolean begun) {
            if (!readTruth(depth, begun)) {
                return false;
            }
            for (int i = 0; i < Tape.LIMIT && here() == '|'; i++) {
                goOn();
                if (!readTruth(depth, false)) {
                    return false;
                }
                draft.put(Law.OR);
            }
            return true;
        }

        private boolean readTruth(int depth, boolean begun) {
            if (!readUnit(depth, begun)) {
                return false;
            }
            for (int i = 0; i < Tape.LIMIT && here() == '&'; i++) {
                goOn();
                if (!readUnit(depth, false)) {
                    return false;
                }
                draft.put(Law.AND);
            }
            return true;
        }

        private boolean readUnit(int depth, boolean begun) {
            if (!begun && here() == '!') {
                return readNot(depth);
            }
            if (!begun && here() == '(') {
                return goDeeper(depth) && readCondition(depth + 1, false) && readSign(')');
            }
            if (!begun && !readSum(depth)) {
                return false;
            }
            int sign = comparison();
            if (sign == NONE) {
                return false;
            }
            goOn();
            if (!readSum(depth)) {
                return false;
            }
            draft.put(sign);
            return true;
        }

        private boolean readNot(int depth) {
            if (!goDeeper(depth) || !readUnit(depth + 1, false)) {
                return false;
            }
            draft.put(Law.NOT);
            return true;
        }

        private boolean goDeeper(int depth) {
            if (depth >= DEEPEST) {
                return false;
            }
            goOn();
            return true;
        }

        private int comparison() {
            switch (here()) {
                case '=':
                    return Law.SAME;
                case '<':
                    return Law.LESS;
                case '>':
                    return Law.MORE;
                default:
                    return NONE;
            }
        }

        private boolean readSum(int depth) {
            if (!readTerm(depth)) {
                return false;
            }
            for (int i = 0; i < Tape.LIMIT && (here() == '+' || here() == '-'); i++) {
                int sign = here() == '+' ? Law.ADD : Law.TAKE;
                goOn();
                if (!readTerm(depth)) {
                    return false;
                }
                draft.put(sign);
            }
            return true;
        }

        private boolean readTerm(int depth) {
            if (!readAtom(depth)) {
                return false;
            }
            for (int i = 0; i < Tape.LIMIT && (here() == '*' || here() == '/'); i++) {
                int sign = here() == '*' ? Law.TIMES : Law.BY;
                goOn();
                if (!readAtom(depth)) {
                    return false;
                }
                draft.put(sign);
            }
            return true;
        }

        private boolean readAtom(int depth) {
            if (here() == '[') {
                return goDeeper(depth) && readSum(depth + 1) && readSign(']');
            }
            int letter = pos < tape.length ? Law.LETTERS.indexOf((char) here()) : NONE;
            if (letter >= 0) {
                draft.put(letter);
                goOn();
                return true;
            }
            return readNumber();
        }

        private boolean readNumber() {
            int digits = tape.digits(pos, MOST_DIGITS + 1);
            if (digits == 0) {
                return false;
            }
            if (digits > MOST_DIGITS) {
                pos += MOST_DIGITS;
                return false;
            }
            draft.put(Law.NUMBER + tape.number(pos, digits));
            pos = tape.pastBlanks(pos + digits);
            return true;
        }
    }

    /** What acts change. */
    static final class State {
        final int[] workers = new int[MOST_ROOMS];
        final int[] frost = new int[MOST_ROOMS];
        int doors = 0;
        int pace = 0;
        int heat = 0;
        int cups = 0;
        int works = 0;
        int day = 0;

        void begin(Office office) {
            for (int room = 0; room < MOST_ROOMS; room++) {
                workers[room] = room < office.rooms ? office.trait(room, Office.WORKERS) : 0;
                frost[room] = 0;
            }
            doors = 0;
            pace = office.rules[Office.PACE];
            heat = office.rules[Office.HEAT];
            cups = office.rules[Office.CUPS];
            works = 0;
            day = 0;
        }

        void copy(State other) {
            System.arraycopy(other.workers, 0, workers, 0, MOST_ROOMS);
            System.arraycopy(other.frost, 0, frost, 0, MOST_ROOMS);
            doors = other.doors;
            pace = other.pace;
            heat = other.heat;
            cups = other.cups;
            works = other.works;
            day = other.day;
        }

        int workersOfAll() {
            int sum = 0;
            for (int room = 0; room < MOST_ROOMS; room++) {
                sum += workers[room];
            }
            return sum;
        }
    }

    /** Acts that can be undone, the log and the image. */
    static final class Past {
        static final int LOG_LENGTH = 60;
        private static final int MOST_ACTS = 40;
        /** So long that after 40 days undone the log still has its 60. */
        private static final int LOG_ROOM = LOG_LENGTH + MOST_ACTS;
        private static final int NOTES = 3;

        private final State[] acts = new State[MOST_ACTS];
        private final int[] log = new int[LOG_ROOM * NOTES];
        private final State imageState = new State();
        private final int[] imageLog = new int[LOG_ROOM * NOTES];
        private int next = 0;
        int undoable = 0;
        boolean hasImage = false;

        Past() {
            for (int i = 0; i < MOST_ACTS; i++) {
                acts[i] = new State();
            }
        }

        void forget() {
            undoable = 0;
            hasImage = false;
        }

        void remember(State now) {
            acts[next].copy(now);
            next = (next + 1) % MOST_ACTS;
            undoable = Math.min(MOST_ACTS, undoable + 1);
        }

        void stepBack(State now) {
            if (undoable > 0) {
                next = (next + MOST_ACTS - 1) % MOST_ACTS;
                now.copy(acts[next]);
                undoable--;
            }
        }

        void note(int day, int tea, int hot, int minutes) {
            int place = placeOf(day);
            log[place] = tea;
            log[place + 1] = hot;
            log[place + 2] = minutes;
        }

        int noted(int day, int what) {
            return log[placeOf(day) + what];
        }

        private static int placeOf(int day) {
            return Math.floorMod(day, LOG_ROOM) * NOTES;
        }

        void keep(State now) {
            imageState.copy(now);
            System.arraycopy(log, 0, imageLog, 0, LOG_ROOM * NOTES);
            hasImage = true;
        }

        void bringBack(State now) {
            now.copy(imageState);
            System.arraycopy(imageLog, 0, log, 0, LOG_ROOM * NOTES);
            undoable = 0;
        }
    }

    /** Minutes and heat on a way from a room (or the lift) to a room. */
    static final class Ways {
        final Office office;
        final State now;
        /** The one that holds; null: none. */
        Law law = null;
        private final int[] letters = new int[Law.LETTERS.length()];

        Ways(Office office, State now) {
            this.office = office;
            this.now = now;
        }

        int minutes(int from, int to) {
            return office.apart(from, to) * now.pace;
        }

        int heatBehind(int from, int to, int heat, int cups, int been, int wobbled) {
            int minutes = minutes(from, to) + wobbled;
            if (law == null) {
                return Math.max(0, heat - minutes * office.rules[Office.COOLS]);
            }
            letters[0] = minutes;
            letters[1] = heat;
            letters[2] = office.trait(to, Office.FLOOR);
            letters[3] = office.apart(from, to);
            letters[4] = cups;
            letters[5] = been;
            return Math.max(0, heat - within(law.worth(letters), 0, MOST_HEAT));
        }

        /** No row brings more heat there from here: no way round is shorter, and nothing heats the urn. */
        int mostHeat(int from, int to, int heat) {
            return law == null ? Math.max(0, heat - minutes(from, to) * office.rules[Office.COOLS]) : heat;
        }

        boolean isHot(int room, int heat) {
            return heat >= office.trait(room, Office.WANTED);
        }

        int poured(int room, int cups) {
            return Math.min(cups, now.workers[room]);
        }
    }

    /** One round, gone room by room. */
    static final class Walk {
        private static final int ALL_PARTS = 1000000;
        final int[] minutes = new int[MOST_ROOMS];
        final int[] heats = new int[MOST_ROOMS];
        final int[] cups = new int[MOST_ROOMS];
        private final int[] order = new int[MOST_ROOMS];
        private final Ways ways;
        private int length = 0;
        private int goal = 0;
        private int chance = 0;
        int came = 0;
        int tea = 0;
        int hot = 0;
        int whole = 0;
        int left = 0;

        Walk(Ways ways) {
            this.ways = ways;
        }

        /** By a round (null: no room) with doors shut (bits), heat as it sets out. */
        void along(int[] round, int shut, int heat) {
            came = 0;
            length = 0;
            tea = 0;
            hot = 0;
            whole = 0;
            left = ways.now.cups;
            if (round == null) {
                return;
            }
            int from = Office.LIFT;
            int heatNow = heat;
            for (int i = 0; i < round.length && length < MOST_ROOMS; i++) {
                int room = round[i];
                if (room < 0 || room >= ways.office.rooms || has(shut, room)) {
                    continue;
                }
                heatNow = ways.heatBehind(from, room, heatNow, left, length, 0);
                whole += ways.minutes(from, room);
                arrive(room, heatNow);
                whole += ways.office.trait(room, Office.STOPS);
                from = room;
            }
        }

        private void arrive(int room, int heat) {
            int poured = ways.poured(room, left);
            minutes[room] = whole;
            heats[room] = heat;
            cups[room] = poured;
            tea += poured;
            hot += ways.isHot(room, heat) ? poured : 0;
            left -= poured;
            came |= 1 << room;
            order[length] = room;
            length++;
        }

        int cupsAt(int room) {
            return has(came, room) ? cups[room] : 0;
        }

        int heatAt(int room) {
            return has(came, room) ? heats[room] : 0;
        }

        /** On the round that was gone last: the parts by which it is hot there, if each way wobbles by chance. */
        int partsHot(int room, int wobbling) {
            if (!has(came, room)) {
                return 0;
            }
            goal = room;
            chance = wobbling;
            return hotParts(0, ways.now.heat, ways.now.cups, ALL_PARTS);
        }

        private int hotParts(int i, int heat, int cupsLeft, int part) {
            if (part == 0 || i < 0 || i >= length) {
                return 0;
            }
            int from = i == 0 ? Office.LIFT : order[i - 1];
            int wobbling = part * chance / 100;
            int slow = ways.heatBehind(from, order[i], heat, cupsLeft, i, ways.now.pace);
            int plain = ways.heatBehind(from, order[i], heat, cupsLeft, i, 0);
            return hotBehind(i, slow, cupsLeft, wobbling) + hotBehind(i, plain, cupsLeft, part - wobbling);
        }

        private int hotBehind(int i, int heat, int cupsLeft, int part) {
            int room = order[i];
            if (room == goal) {
                return ways.isHot(room, heat) ? part : 0;
            }
            return hotParts(i + 1, heat, cupsLeft - ways.poured(room, cupsLeft), part);
        }
    }

    /** Tries rows of rooms in rising order, so that of several the least is found first. */
    static final class Search {
        private static final int NEVER = 1000000;
        private final Ways ways;
        private boolean bestKnown = false;
        private int rowLength = 0;
        int bestRow = NONE;
        int bestHot = NONE;
        int shortRow = NONE;
        int shortMinutes = NONE;

        Search(Ways ways) {
            this.ways = ways;
        }

        void forget() {
            bestKnown = false;
        }

        void findBest() {
            if (bestKnown) {
                return;
            }
            bestRow = NONE;
            bestHot = NONE;
            rowLength = ways.office.rooms;
            tryHot(ways.office.everyRoom(), Office.LIFT, ways.now.heat, ways.now.cups, 0, 0);
            bestKnown = true;
        }

        /** Each call takes a room from those that remain, so it goes eight deep at most. */
        private void tryHot(int remain, int from, int heat, int cups, int hot, int row) {
            if (hot + mostHot(remain, from, heat, cups) <= bestHot) {
                return;
            }
            if (remain == 0) {
                bestHot = hot;
                bestRow = row;
                return;
            }
            int been = rowLength - Integer.bitCount(remain);
            for (int room = 0; room < ways.office.rooms; room++) {
                if (has(remain, room)) {
                    int there = ways.heatBehind(from, room, heat, cups, been, 0);
                    int poured = ways.poured(room, cups);
                    int more = ways.isHot(room, there) ? poured : 0;
                    tryHot(remain & ~(1 << room), room, there, cups - poured, hot + more, 10 * row + room);
                }
            }
        }

        private int mostHot(int remain, int from, int heat, int cups) {
            int sum = 0;
            for (int room = 0; room < ways.office.rooms; room++) {
                if (has(remain, room) && ways.isHot(room, ways.mostHeat(from, room, heat))) {
                    sum += ways.now.workers[room];
                }
            }
            return Math.min(sum, cups);
        }

        void findShortest(int rooms) {
            shortRow = NONE;
            shortMinutes = NEVER;
            rowLength = Integer.bitCount(rooms);
            tryShort(rooms, Office.LIFT, 0, ways.now.heat, ways.now.cups, 0);
            if (shortRow == NONE) {
                shortMinutes = NONE;
            }
        }

        /** Each call takes a room from those that remain, so it goes eight deep at most. */
        private void tryShort(int remain, int from, int leaves, int heat, int cups, int row) {
            if (isHopeless(remain, from, leaves, heat, cups)) {
                return;
            }
            int been = rowLength - Integer.bitCount(remain);
            for (int room = 0; room < ways.office.rooms; room++) {
                if (!has(remain, room)) {
                    continue;
                }
                int comes = leaves + ways.minutes(from, room);
                int there = ways.heatBehind(from, room, heat, cups, been, 0);
                int others = remain & ~(1 << room);
                if (!allHot(room, there, cups) || comes >= shortMinutes) {
                    continue;
                }
                if (others == 0) {
                    shortMinutes = comes;
                    shortRow = 10 * row + room;
                } else {
                    int stops = ways.office.trait(room, Office.STOPS);
                    tryShort(others, room, comes + stops, there, cups - ways.now.workers[room], 10 * row + room);
                }
            }
        }

        /** Whether some room can't have it hot any more, or not sooner than all have it by the row found. */
        private boolean isHopeless(int remain, int from, int leaves, int heat, int cups) {
            for (int room = 0; room < ways.office.rooms; room++) {
                if (has(remain, room) && (leaves + ways.minutes(from, room) >= shortMinutes
                        || !allHot(room, ways.mostHeat(from, room, heat), cups))) {
                    return true;
                }
            }
            return false;
        }

        private boolean allHot(int room, int heat, int cups) {
            int workers = ways.now.workers[room];
            return workers == 0 || workers <= cups && ways.isHot(room, heat);
        }
    }

    /** Doors seen, and the rows of all rooms that fit them. */
    static final class Sightings {
        private static final int MOST = 10;
        /** No row takes as long. */
        private static final int NEVER = 1000000;
        private static final int[] ORDERS = {1, 1, 2, 6, 24, 120, 720, 5040, 40320};
        private final Ways ways;
        private final int[] earliest = new int[MOST_ROOMS];
        private final int[] latest = new int[MOST_ROOMS];
        private final int[] yes = new int[MOST_ROOMS];
        /** The way there and the stop, from wherever it comes. */
        private final int[] longest = new int[MOST_ROOMS];
        private int minute = NONE;
        int told = 0;

        Sightings(Ways ways) {
            this.ways = ways;
        }

        void forget() {
            told = 0;
            for (int room = 0; room < MOST_ROOMS; room++) {
                earliest[room] = 0;
                latest[room] = NEVER;
            }
        }

        boolean add(int room, int t, boolean had) {
            if (told >= MOST || room < 0 || room >= MOST_ROOMS) {
                return false;
            }
            if (had) {
                latest[room] = Math.min(latest[room], t);
            } else {
                earliest[room] = Math.max(earliest[room], t + 1);
            }
            told++;
            return true;
        }

        int fitting() {
            begin(NONE);
            return countRows(ways.office.everyRoom(), Office.LIFT, 0);
        }

        /** Makes ready to count rows, and those among them by which it has come by minute t. */
        private void begin(int t) {
            minute = t;
            for (int room = 0; room < ways.office.rooms; room++) {
                yes[room] = 0;
                longest[room] = ways.minutes(Office.LIFT, room);
                for (int from = 0; from < ways.office.rooms; from++) {
                    longest[room] = Math.max(longest[room], ways.minutes(from, room));
                }
                longest[room] += ways.office.trait(room, Office.STOPS);
            }
        }

        /** The i-th row that fits, or NONE. */
        int fittingRow(int i) {
            begin(NONE);
            int remain = ways.office.everyRoom();
            int from = Office.LIFT;
            int leaves = 0;
            int row = 0;
            int behind = i;
            for (int place = 0; place < ways.office.rooms; place++) {
                int chosen = NONE;
                for (int room = 0; room < ways.office.rooms && chosen == NONE; room++) {
                    int rows = countFrom(room, remain, from, leaves);
                    if (behind < rows) {
                        chosen = room;
                    } else {
                        behind -= rows;
                    }
                }
                if (chosen == NONE) {
                    return NONE;
                }
                leaves += ways.minutes(from, chosen) + ways.office.trait(chosen, Office.STOPS);
                remain &= ~(1 << chosen);
                from = chosen;
                row = 10 * row + chosen;
            }
            return row;
        }

        /** The room by which yes and no are least apart at minute t, or NONE: nothing fits. */
        int evenest(int t) {
            begin(t);
            int rows = countRows(ways.office.everyRoom(), Office.LIFT, 0);
            if (rows == 0) {
                return NONE;
            }
            int place = 0;
            for (int room = 1; room < ways.office.rooms; room++) {
                if (Math.abs(2 * yes[room] - rows) < Math.abs(2 * yes[place] - rows)) {
                    place = room;
                }
            }
            return place;
        }

        /** Each call takes a room from those that remain, so it goes eight deep at most. */
        private int countRows(int remain, int from, int leaves) {
            boolean tooEarly = false;
            int firstLimit = NEVER;
            int end = leaves;
            for (int room = 0; room < ways.office.rooms; room++) {
                if (has(remain, room)) {
                    int soonest = leaves + ways.minutes(from, room);
                    if (soonest > latest[room]) {
                        return 0;
                    }
                    tooEarly |= soonest < earliest[room];
                    firstLimit = Math.min(firstLimit, latest[room]);
                    end += longest[room];
                }
            }
            if (!tooEarly && end <= firstLimit && (minute < leaves || minute >= end)) {
                return countOrders(remain, minute >= end);
            }
            int rows = 0;
            for (int room = 0; room < ways.office.rooms; room++) {
                rows += countFrom(room, remain, from, leaves);
            }
            return rows;
        }

        /** Of rooms of which nothing is asked any more: every order of them fits, and all or none are a yes. */
        private int countOrders(int remain, boolean allCome) {
            int rows = ORDERS[Integer.bitCount(remain & 255)];
            for (int room = 0; room < MOST_ROOMS && allCome; room++) {
                yes[room] += has(remain, room) ? rows : 0;
            }
            return rows;
        }

        private int countFrom(int room, int remain, int from, int leaves) {
            int comes = leaves + ways.minutes(from, room);
            if (!has(remain, room) || comes < earliest[room] || comes > latest[room]) {
                return 0;
            }
            int stops = ways.office.trait(room, Office.STOPS);
            int rows = countRows(remain & ~(1 << room), room, comes + stops);
            if (comes <= minute) {
                yes[room] += rows;
            }
            return rows;
        }
    }
}
