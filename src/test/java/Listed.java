import java.util.ArrayList;
import java.util.List;

/** Rows of all rooms, listed one by one with the minutes at which it comes, against FITS, SECOND and ASK. */
final class Listed {
    private final TeaTrolley x;
    private final int rooms;
    private final List<Integer> rows = new ArrayList<>();
    private final List<int[]> comes = new ArrayList<>();

    private Listed(TeaTrolley x) {
        this.x = x;
        this.rooms = x.count(0);
        list("", new int[rooms], 0);
    }

    /** Doors seen: a room, a minute, and 1 (it had come) or 0, one behind another. */
    static void check(String office, int... seen) {
        TeaTrolley x = Due.office(office);
        Listed all = new Listed(x);
        for (int i = 0; i < seen.length; i += 3) {
            x.seen(seen[i], seen[i + 1], seen[i + 2] == 1);
            all.keep(seen[i], seen[i + 1], seen[i + 2] == 1);
        }
        all.compare();
    }

    private void list(String row, int[] minutes, int leaves) {
        if (row.length() == rooms) {
            rows.add(Integer.valueOf(row));
            comes.add(minutes.clone());
        }
        for (int room = 0; room < rooms; room++) {
            if (row.indexOf('0' + room) < 0) {
                int steps = row.isEmpty() ? x.room(room, 1) + 3 * x.room(room, 0)
                    : x.steps(row.charAt(row.length() - 1) - '0', room);
                minutes[room] = leaves + steps * x.rule(2);
                list(row + room, minutes, minutes[room] + x.room(room, 4));
            }
        }
    }

    private void keep(int room, int t, boolean had) {
        for (int i = rows.size() - 1; i >= 0; i--) {
            if (comes.get(i)[room] <= t != had) {
                rows.remove(i);
                comes.remove(i);
            }
        }
    }

    private void compare() {
        Due.is("some rows are left, or the test says nothing", rows.size() > 0, true);
        Due.is("how many fit", x.fits(-1), rows.size());
        Due.is("second", x.second(), 0);
        for (int i = 0; i < rows.size(); i++) {
            Due.is("row " + i, x.fits(i), rows.get(i));
        }
        Due.is("no more", x.fits(rows.size()), -1);
        for (int t = 0; t <= 999; t += t < 120 ? 1 : 37) {
            Due.is("ask " + t, x.ask(t), evenest(t));
        }
    }

    private int evenest(int t) {
        int place = -1;
        int least = Integer.MAX_VALUE;
        for (int room = 0; room < rooms; room++) {
            int yes = 0;
            for (int[] minutes : comes) {
                yes += minutes[room] <= t ? 1 : 0;
            }
            int apart = Math.abs(yes - (rows.size() - yes));
            if (apart < least) {
                least = apart;
                place = room;
            }
        }
        return place;
    }
}
