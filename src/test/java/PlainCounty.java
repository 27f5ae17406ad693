import java.math.BigInteger;
import java.util.ArrayList;
import java.util.Comparator;
import java.util.List;

/**
 * The document once more, told in another way than the class does it and without a care for speed:
 * the answers of both are compared over long runs.
 */
final class PlainCounty {
    static final class Event {
        int number;
        char kind;
        int day;
        int setDay;
        int liftDay = -1;
        int row;
        int line;
        boolean isEast;
        int owner;
        int x;
        int y;
        int grantor;
        int grantee;
        List<int[]> corners;
        int[] error;
    }

    static final class Day {
        final int[][] owners = new int[8][8];
        final int[] lines = {4, 4, 4, 4, 4, 4, 4, 4};
        final List<List<Integer>> titles = new ArrayList<>();
        int changes;
        int missed;

        Day() {
            for (int k = 0; k < 64; k++) {
                titles.add(new ArrayList<>());
            }
        }

        void become(int x, int y, int owner, int number) {
            if (owners[x][y] != owner) {
                owners[x][y] = owner;
                titles.get(8 * x + y).add(number);
                changes++;
            }
        }
    }

    final List<Event> events = new ArrayList<>();
    int[] draft;
    List<int[]> courses = new ArrayList<>();
    int knocks;

    private static void argument(boolean isRight) {
        if (!isRight) {
            throw new IllegalArgumentException();
        }
    }

    private static void index(boolean isRight) {
        if (!isRight) {
            throw new IndexOutOfBoundsException();
        }
    }

    private static void state(boolean isRight) {
        if (!isRight) {
            throw new IllegalStateException();
        }
    }

    private static boolean in(int value, int least, int most) {
        return least <= value && value <= most;
    }

    int draft(int grantor, int grantee, int x, int y) {
        argument(in(grantor, 0, 5) && in(grantee, 0, 5) && grantor != grantee && in(x, 0, 8) && in(y, 0, 8));
        int gone = draft == null ? -1 : courses.size();
        draft = new int[] {grantor, grantee, x, y};
        courses = new ArrayList<>();
        return gone;
    }

    int course(int dx, int dy) {
        argument(in(dx, -8, 8) && in(dy, -8, 8) && !(dx == 0 && dy == 0));
        state(draft != null && courses.size() < 10);
        courses.add(new int[] {dx, dy});
        return courses.size();
    }

    private int enter(char kind, int day, Event event) {
        event.number = events.size();
        event.kind = kind;
        event.day = day;
        events.add(event);
        return event.number;
    }

    private Event deedOfDraft() {
        Event deed = new Event();
        deed.grantor = draft[0];
        deed.grantee = draft[1];
        deed.error = new int[2];
        int all = 0;
        for (int[] course : courses) {
            deed.error[0] += course[0];
            deed.error[1] += course[1];
            all += length(course);
        }
        deed.corners = new ArrayList<>();
        for (int k = 0; k < courses.size(); k++) {
            int[] corner = {draft[2], draft[3]};
            int first = 0;
            for (int[] course : courses.subList(0, k)) {
                corner[0] += course[0];
                corner[1] += course[1];
                first += length(course);
            }
            for (int axis = 0; axis < 2; axis++) {
                BigInteger product = BigInteger.valueOf(deed.error[axis]).multiply(BigInteger.valueOf(first));
                corner[axis] -= product.divide(BigInteger.valueOf(all)).intValueExact();
            }
            deed.corners.add(corner);
        }
        return deed;
    }

    private static int length(int[] course) {
        return (course[0] < 0 ? -course[0] : course[0]) + (course[1] < 0 ? -course[1] : course[1]);
    }

    int file(int day) {
        argument(in(day, 0, 999));
        state(draft != null && courses.size() >= 3 && events.size() < 24);
        int number = enter('d', day, deedOfDraft());
        draft = null;
        return number;
    }

    int grow(int row, boolean isEast, int day) {
        argument(in(row, 0, 7) && in(day, 0, 999));
        state(events.size() < 24);
        Event growth = new Event();
        growth.row = row;
        growth.isEast = isEast;
        return enter('g', day, growth);
    }

    int jump(int row, int line, int day) {
        argument(in(row, 0, 7) && in(line, 0, 8) && in(day, 0, 999));
        state(events.size() < 24);
        Event jump = new Event();
        jump.row = row;
        jump.line = line;
        return enter('j', day, jump);
    }

    int fence(int owner, int x, int y, int day) {
        argument(in(owner, 0, 5) && in(x, 0, 7) && in(y, 0, 7) && in(day, 0, 999));
        state(events.size() < 24);
        Event fence = new Event();
        fence.owner = owner;
        fence.x = x;
        fence.y = y;
        fence.setDay = day;
        return enter('f', day + 20, fence);
    }

    boolean lift(int instrument, int day) {
        index(in(instrument, 0, events.size() - 1));
        argument(in(day, 0, 999));
        Event fence = events.get(instrument);
        state(fence.kind == 'f' && fence.liftDay == -1 && day > fence.setDay);
        fence.liftDay = day;
        return day <= fence.day;
    }

    int knock() {
        return ++knocks;
    }

    /** The left turns of a to b to p tell on which side of the side p lies. */
    private static boolean isWithin(List<int[]> corners, int x, int y) {
        long px = 2L * x + 1;
        long py = 2L * y + 1;
        int crossed = 0;
        for (int k = 0; k < corners.size(); k++) {
            int[] a = corners.get(k);
            int[] b = corners.get((k + 1) % corners.size());
            int[] low = a[1] <= b[1] ? a : b;
            int[] high = a[1] <= b[1] ? b : a;
            boolean isReached = 2L * low[1] < py && py < 2L * high[1];
            long turn = (2L * high[0] - 2L * low[0]) * (py - 2L * low[1])
                - (2L * high[1] - 2L * low[1]) * (px - 2L * low[0]);
            if (isReached && turn > 0) {
                crossed++;
            }
        }
        return crossed % 2 == 1;
    }

    private Day make(int last, Event stopAt) {
        List<Event> order = new ArrayList<>(events);
        order.sort(Comparator.comparingInt((Event e) -> e.day).thenComparingInt(e -> e.number));
        Day made = new Day();
        for (Event event : order) {
            if (event.day > last) {
                break;
            }
            made.changes = 0;
            made.missed = 0;
            act(made, event);
            if (event == stopAt) {
                break;
            }
        }
        return made;
    }

    private static void act(Day on, Event event) {
        if (event.kind == 'd') {
            for (int x = 0; x < 8; x++) {
                for (int y = 0; y < 8; y++) {
                    if (!isWithin(event.corners, x, y)) {
                        continue;
                    }
                    if (on.owners[x][y] == event.grantor) {
                        on.become(x, y, event.grantee, event.number);
                    } else {
                        on.missed++;
                    }
                }
            }
        } else if (event.kind == 'g') {
            int line = on.lines[event.row];
            if (event.isEast && line < 8) {
                if (line > 0) {
                    on.become(line, event.row, on.owners[line - 1][event.row], event.number);
                }
                on.lines[event.row]++;
            } else if (!event.isEast && line > 0) {
                if (line < 8) {
                    on.become(line - 1, event.row, on.owners[line][event.row], event.number);
                }
                on.lines[event.row]--;
            }
        } else if (event.kind == 'j') {
            on.lines[event.row] = event.line;
        } else if (event.liftDay == -1 || event.liftDay > event.day) {
            on.become(event.x, event.y, event.owner, event.number);
        }
    }

    int ofInstrument(int instrument, int what) {
        index(in(instrument, 0, events.size() - 1));
        argument(in(what, 0, 3));
        Event event = events.get(instrument);
        return what == 0 ? "dgjf".indexOf(event.kind)
            : what == 1 ? event.day
            : what == 2 ? make(Integer.MAX_VALUE, event).changes
            : event.liftDay >= 0 ? 1 : 0;
    }

    int ofDeed(int instrument, int what) {
        index(in(instrument, 0, events.size() - 1));
        argument(in(what, 0, 7));
        Event deed = events.get(instrument);
        state(deed.kind == 'd');
        int within = 0;
        for (int cell = 0; cell < 64; cell++) {
            within += isWithin(deed.corners, cell / 8, cell % 8) ? 1 : 0;
        }
        int[] facts = {deed.grantor, deed.grantee, deed.corners.size(), areaDoubled(deed.corners), deed.error[0],
            deed.error[1], within, make(Integer.MAX_VALUE, deed).missed};
        return facts[what];
    }

    /** By the stripes between each side and the axis, which are together the same area. */
    private static int areaDoubled(List<int[]> corners) {
        int sum = 0;
        for (int k = 0; k < corners.size(); k++) {
            int[] a = corners.get(k);
            int[] b = corners.get((k + 1) % corners.size());
            sum += (b[0] - a[0]) * (a[1] + b[1]);
        }
        return sum < 0 ? -sum : sum;
    }

    int corner(int instrument, int corner, boolean isX) {
        index(in(instrument, 0, events.size() - 1));
        Event deed = events.get(instrument);
        state(deed.kind == 'd');
        argument(in(corner, 0, deed.corners.size() - 1));
        return deed.corners.get(corner)[isX ? 0 : 1];
    }

    int owner(int x, int y, int day) {
        index(in(x, 0, 7) && in(y, 0, 7));
        argument(in(day, 0, 999));
        return make(day, null).owners[x][y];
    }

    int title(int x, int y, int day) {
        index(in(x, 0, 7) && in(y, 0, 7));
        argument(in(day, 0, 999));
        return make(day, null).titles.get(8 * x + y).size();
    }

    int link(int x, int y, int nth) {
        index(in(x, 0, 7) && in(y, 0, 7));
        argument(nth >= 0);
        List<Integer> title = make(999, null).titles.get(8 * x + y);
        return nth < title.size() ? title.get(nth) : -1;
    }

    int area(int owner, int day) {
        index(in(owner, 0, 5));
        argument(in(day, 0, 999));
        return ownedFrom(make(day, null), owner, 0);
    }

    private static int ownedFrom(Day day, int owner, int x) {
        int count = 0;
        for (int cell = 8 * x; cell < 64; cell++) {
            count += day.owners[cell / 8][cell % 8] == owner ? 1 : 0;
        }
        return count;
    }

    int line(int row, int day) {
        index(in(row, 0, 7));
        argument(in(day, 0, 999));
        return make(day, null).lines[row];
    }

    String row(int row, int day) {
        index(in(row, 0, 7));
        argument(in(day, 0, 999));
        Day made = make(day, null);
        StringBuilder text = new StringBuilder();
        for (int x = 0; x < 8; x++) {
            text.append((char) ('0' + made.owners[x][row]));
        }
        return text.insert(made.lines[row], '|').toString();
    }

    int county(int what) {
        argument(in(what, 0, 6));
        if (what == 0) {
            return events.size();
        }
        if (what == 5) {
            return draft == null ? -1 : courses.size();
        }
        if (what == 6) {
            return knocks;
        }
        return (int) events.stream().filter(e -> e.kind == "dgjf".charAt(what - 1)).count();
    }

    int borders(int day) {
        argument(in(day, 0, 999));
        Day made = make(day, null);
        int sides = 0;
        for (int one = 0; one < 64; one++) {
            for (int other = one + 1; other < 64; other++) {
                int apart = Math.abs(one / 8 - other / 8) + Math.abs(one % 8 - other % 8);
                if (apart == 1 && made.owners[one / 8][one % 8] != made.owners[other / 8][other % 8]) {
                    sides++;
                }
            }
        }
        return sides;
    }

    int cut(int owner, int wish, int day) {
        index(in(owner, 0, 5));
        argument(in(wish, 1, 64) && in(day, 0, 999));
        Day made = make(day, null);
        int best = -1;
        for (int x = 0; x < 8; x++) {
            if (ownedFrom(made, owner, x) >= wish) {
                best = x;
            }
        }
        return best;
    }

    int wouldFile(int day) {
        argument(in(day, 0, 999));
        if (draft == null || courses.size() < 3 || events.size() >= 24) {
            return -1;
        }
        Event deed = deedOfDraft();
        enter('d', day, deed);
        int changes = make(day, deed).changes;
        events.remove(deed.number);
        return changes;
    }

    boolean isSound() {
        return true;
    }

    long digest() {
        long d = 8803;
        for (int what = 0; what <= 6; what++) {
            d = d * 31 + county(what);
        }
        for (Event event : events) {
            for (int what = 0; what <= 3; what++) {
                d = d * 31 + ofInstrument(event.number, what);
            }
            for (int what = 0; what <= 7 && event.kind == 'd'; what++) {
                d = d * 31 + ofDeed(event.number, what);
            }
            for (int k = 0; event.kind == 'd' && k < event.corners.size(); k++) {
                d = d * 31 + corner(event.number, k, true);
                d = d * 31 + corner(event.number, k, false);
            }
        }
        for (int day : new int[] {50, 999}) {
            for (int row = 0; row < 8; row++) {
                d = d * 31 + line(row, day);
                for (int x = 0; x < 8; x++) {
                    d = d * 31 + owner(x, row, day);
                    d = d * 31 + title(x, row, day);
                }
            }
            for (int owner = 0; owner < 6; owner++) {
                d = d * 31 + area(owner, day);
                d = d * 31 + cut(owner, 4, day);
            }
            d = d * 31 + borders(day);
        }
        return d * 31 + 1;
    }
}
