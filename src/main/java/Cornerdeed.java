import java.util.Arrays;

/**
 * A county's plots, told by deeds.
 *
 * Nothing is kept of the map of any day: an instrument may be filed for a day that is long past,
 * so each question makes the map anew from all instruments, in the one Land that the object has.
 */
public final class Cornerdeed {
    private static final int NONE = -1;

    private static final int OWNERS = 6;
    private static final int SIDE = 8;
    private static final int CELLS = 64;
    private static final int LAST_DAY = 999;
    private static final int FIRST_LINE = 4;

    private static final int MAX_STEP = 8;
    private static final int MIN_COURSES = 3;
    private static final int MAX_COURSES = 10;
    private static final int MAX_INSTRUMENTS = 24;
    private static final int FENCE_DAYS = 20;

    private static final int DEED = 0;
    private static final int GROWTH = 1;
    private static final int JUMP = 2;
    private static final int FENCE = 3;

    private static final int LAST_COUNTY_FACT = 6;
    private static final int LAST_INSTRUMENT_FACT = 3;
    private static final int LAST_DEED_FACT = 7;

    private final Draft pending;
    private final Register register;
    private final Land land;
    private final Land told;
    private final Ring sketch;
    private int refused;

    public Cornerdeed() {
        pending = new Draft();
        register = new Register();
        land = new Land();
        told = new Land();
        sketch = new Ring();
    }

    // ---- deeds

    public int draft(int grantor, int grantee, int x, int y) throws IllegalArgumentException {
        if (!isOwner(grantor) || !isOwner(grantee) || grantor == grantee) {
            throw new IllegalArgumentException("grantor and grantee are two owners of 0 to 5");
        }
        if (!isFrom(0, SIDE, x) || !isFrom(0, SIDE, y)) {
            throw new IllegalArgumentException("the beginning corner is 0 to 8, 0 to 8");
        }
        int gone = pending.courseCount();
        pending.begin(grantor, grantee, x, y);
        return gone;
    }

    public int course(int dx, int dy) throws IllegalArgumentException, IllegalStateException {
        if (!isFrom(-MAX_STEP, MAX_STEP, dx) || !isFrom(-MAX_STEP, MAX_STEP, dy) || (dx == 0 && dy == 0)) {
            throw new IllegalArgumentException("dx and dy are -8 to 8, not both 0");
        }
        if (!pending.hasRoom()) {
            throw new IllegalStateException("there is no draft, or it has 10 courses");
        }
        pending.add(dx, dy);
        return pending.courseCount();
    }

    public int file(int day) throws IllegalArgumentException, IllegalStateException {
        needDay(day);
        if (!canFile()) {
            throw new IllegalStateException("no draft of 3 courses or more, or there are 24 instruments");
        }
        Ring ring = new Ring();
        pending.drawInto(ring);
        Deed deed = new Deed(register.size(), day, pending, ring);
        pending.close();
        return enter(deed);
    }

    // ---- water and fences

    public int grow(int row, boolean isEast, int day) throws IllegalArgumentException, IllegalStateException {
        if (!isRow(row) || !isDay(day)) {
            throw new IllegalArgumentException("a row is 0 to 7, a day 0 to 999");
        }
        needRoom();
        return enter(new Growth(register.size(), day, row, isEast));
    }

    public int jump(int row, int line, int day) throws IllegalArgumentException, IllegalStateException {
        if (!isRow(row) || !isFrom(0, SIDE, line) || !isDay(day)) {
            throw new IllegalArgumentException("a row is 0 to 7, a line 0 to 8, a day 0 to 999");
        }
        needRoom();
        return enter(new Jump(register.size(), day, row, line));
    }

    public int fence(int owner, int x, int y, int day) throws IllegalArgumentException, IllegalStateException {
        if (!isOwner(owner) || !isCell(x, y) || !isDay(day)) {
            throw new IllegalArgumentException("an owner is 0 to 5, a cell 0 to 7, 0 to 7, a day 0 to 999");
        }
        needRoom();
        return enter(new Fence(register.size(), day, cellAt(x, y), owner));
    }

    public boolean lift(int instrument, int day)
            throws IndexOutOfBoundsException, IllegalArgumentException, IllegalStateException {
        Instrument asked = needInstrument(instrument);
        needDay(day);
        Fence fence = asFence(asked);
        if (fence == null || fence.isLifted || day <= fence.setDay) {
            throw new IllegalStateException("no fence, lifted already, or not behind the day on which it was set");
        }
        fence.liftFor(day);
        settle();
        return fence.isVoid;
    }

    public int knock() {
        refused++;
        return refused;
    }

    // ---- what is asked

    public int ofInstrument(int instrument, int what) throws IndexOutOfBoundsException, IllegalArgumentException {
        Instrument asked = needInstrument(instrument);
        if (!isFrom(0, LAST_INSTRUMENT_FACT, what)) {
            throw new IllegalArgumentException("what is 0 to 3");
        }
        return instrumentFact(asked, what);
    }

    public int ofDeed(int instrument, int what)
            throws IndexOutOfBoundsException, IllegalArgumentException, IllegalStateException {
        Instrument asked = needInstrument(instrument);
        if (!isFrom(0, LAST_DEED_FACT, what)) {
            throw new IllegalArgumentException("what is 0 to 7");
        }
        Deed deed = needDeed(asked);
        return deedFact(deed, what);
    }

    public int corner(int instrument, int corner, boolean isX)
            throws IndexOutOfBoundsException, IllegalStateException, IllegalArgumentException {
        Instrument asked = needInstrument(instrument);
        Deed deed = needDeed(asked);
        if (!deed.ring.hasCorner(corner)) {
            throw new IllegalArgumentException("there is no such corner");
        }
        return isX ? deed.ring.xOf(corner) : deed.ring.yOf(corner);
    }

    public int owner(int x, int y, int day) throws IndexOutOfBoundsException, IllegalArgumentException {
        needCell(x, y);
        needDay(day);
        showDay(day);
        return land.ownerOf(cellAt(x, y));
    }

    public int title(int x, int y, int day) throws IndexOutOfBoundsException, IllegalArgumentException {
        needCell(x, y);
        needDay(day);
        showDay(day);
        return land.titleLengthOf(cellAt(x, y));
    }

    public int link(int x, int y, int nth) throws IndexOutOfBoundsException, IllegalArgumentException {
        needCell(x, y);
        if (nth < 0) {
            throw new IllegalArgumentException("a place is 0 or more");
        }
        showDay(LAST_DAY);
        return linkInTitle(cellAt(x, y), nth);
    }

    public int area(int owner, int day) throws IndexOutOfBoundsException, IllegalArgumentException {
        needOwner(owner);
        needDay(day);
        showDay(day);
        return land.areaOf(owner);
    }

    public int line(int row, int day) throws IndexOutOfBoundsException, IllegalArgumentException {
        needRow(row);
        needDay(day);
        showDay(day);
        return land.lineOf(row);
    }

    public String row(int row, int day) throws IndexOutOfBoundsException, IllegalArgumentException {
        needRow(row);
        needDay(day);
        showDay(day);
        return land.picture(row);
    }

    public int county(int what) throws IllegalArgumentException {
        if (!isFrom(0, LAST_COUNTY_FACT, what)) {
            throw new IllegalArgumentException("what is 0 to 6");
        }
        return countyFact(what);
    }

    // ---- what would be

    public int borders(int day) throws IllegalArgumentException {
        needDay(day);
        showDay(day);
        return land.borderLength();
    }

    public int cut(int owner, int wish, int day) throws IndexOutOfBoundsException, IllegalArgumentException {
        needOwner(owner);
        if (!isFrom(1, CELLS, wish) || !isDay(day)) {
            throw new IllegalArgumentException("a wish is 1 to 64, a day 0 to 999");
        }
        showDay(day);
        return land.cutFor(owner, wish);
    }

    public int wouldFile(int day) throws IllegalArgumentException {
        needDay(day);
        if (!canFile()) {
            return NONE;
        }
        pending.drawInto(sketch);
        showDay(day);
        return land.countOwned(sketch.cellsWithin(), pending.grantor);
    }

    public boolean isSound() {
        return isSoundOn(0) && isSoundOn(50) && isSoundOn(100) && isSoundOn(LAST_DAY) && areDeedsSound();
    }

    public long digest() {
        long d = 8803;
        for (int what = 0; what <= LAST_COUNTY_FACT; what++) {
            d = mix(d, countyFact(what));
        }
        for (int number = 0; number < register.size(); number++) {
            d = mixInstrument(d, register.numbered(number));
        }
        d = mixDay(d, 50);
        d = mixDay(d, LAST_DAY);
        return mix(d, isSound() ? 1 : 0);
    }

    // ---- what the arguments may be

    private static boolean isFrom(int least, int most, int value) {
        return value >= least && value <= most;
    }

    private static boolean isOwner(int owner) {
        return isFrom(0, OWNERS - 1, owner);
    }

    private static boolean isRow(int row) {
        return row >= 0 && row < SIDE;
    }

    private static boolean isCell(int x, int y) {
        return isFrom(0, SIDE - 1, x) && isFrom(0, SIDE - 1, y);
    }

    private static boolean isDay(int day) {
        return isFrom(0, LAST_DAY, day);
    }

    private static int cellAt(int x, int y) {
        return y * SIDE + x;
    }

    private static void needDay(int day) {
        if (!isDay(day)) {
            throw new IllegalArgumentException("a day is 0 to 999");
        }
    }

    private static void needCell(int x, int y) {
        if (!isCell(x, y)) {
            throw new IndexOutOfBoundsException("a cell is 0 to 7, 0 to 7");
        }
    }

    private static void needOwner(int owner) {
        if (!isOwner(owner)) {
            throw new IndexOutOfBoundsException("an owner is 0 to 5");
        }
    }

    private static void needRow(int row) {
        if (!isRow(row)) {
            throw new IndexOutOfBoundsException("a row is 0 to 7");
        }
    }

    private void needRoom() {
        if (register.isFull()) {
            throw new IllegalStateException("there are 24 instruments");
        }
    }

    private Instrument needInstrument(int number) {
        Instrument found = register.numbered(number);
        if (found == null) {
            throw new IndexOutOfBoundsException("there is no such instrument");
        }
        return found;
    }

    private static Deed needDeed(Instrument instrument) {
        Deed deed = asDeed(instrument);
        if (deed == null) {
            throw new IllegalStateException("it is no deed");
        }
        return deed;
    }

    private static Deed asDeed(Instrument instrument) {
        if (instrument instanceof Deed) {
            return (Deed) instrument;
        }
        return null;
    }

    private static Fence asFence(Instrument instrument) {
        if (instrument instanceof Fence) {
            return (Fence) instrument;
        }
        return null;
    }

    // ---- how the map of a day is made

    private boolean canFile() {
        return pending.isClosable() && !register.isFull();
    }

    private int enter(Instrument instrument) {
        register.enter(instrument);
        settle();
        return instrument.number;
    }

    private void showDay(int day) {
        land.clear();
        for (int place = 0; place < register.size(); place++) {
            Instrument next = register.placed(place);
            if (next == null || next.day > day) {
                return;
            }
            next.actOn(land);
        }
    }

    /**
     * What an instrument did on its day is asked of all of them by digest() and isSound(); it changes
     * only as an instrument is told or lifted, so one pass over all (behind the day 999 too) notes it.
     */
    private void settle() {
        land.clear();
        for (int place = 0; place < register.size(); place++) {
            Instrument next = register.placed(place);
            if (next != null) {
                noteMissed(asDeed(next));
                next.actOn(land);
            }
        }
        for (int number = 0; number < register.size(); number++) {
            Instrument done = register.numbered(number);
            if (done != null) {
                done.changes = land.countLinks(number);
            }
        }
    }

    private void noteMissed(Deed deed) {
        if (deed != null) {
            deed.missed = Long.bitCount(deed.cells) - land.countOwned(deed.cells, deed.grantor);
        }
    }

    // ---- facts

    private static int instrumentFact(Instrument instrument, int what) {
        switch (what) {
            case 0:
                return instrument.kind();
            case 1:
                return instrument.day;
            case 2:
                return instrument.changes;
            default:
                return isLifted(instrument) ? 1 : 0;
        }
    }

    private static boolean isLifted(Instrument instrument) {
        Fence fence = asFence(instrument);
        return fence != null && fence.isLifted;
    }

    private static int deedFact(Deed deed, int what) {
        switch (what) {
            case 0:
                return deed.grantor;
            case 1:
                return deed.grantee;
            case 2:
                return deed.ring.size();
            case 3:
                return deed.ring.areaDoubled();
            case 4:
                return deed.errorX;
            case 5:
                return deed.errorY;
            case 6:
                return Long.bitCount(deed.cells);
            default:
                return deed.missed;
        }
    }

    private int countyFact(int what) {
        switch (what) {
            case 0:
                return register.size();
            case 1:
                return register.countOf(DEED);
            case 2:
                return register.countOf(GROWTH);
            case 3:
                return register.countOf(JUMP);
            case 4:
                return register.countOf(FENCE);
            case 5:
                return pending.courseCount();
            default:
                return refused;
        }
    }

    private int linkInTitle(int cell, int nth) {
        int seen = 0;
        for (int place = 0; place < register.size(); place++) {
            Instrument next = register.placed(place);
            if (next != null && land.hasLink(cell, next.number)) {
                if (seen == nth) {
                    return next.number;
                }
                seen++;
            }
        }
        return NONE;
    }

    // ---- soundness

    private boolean isSoundOn(int day) {
        showDay(day);
        int all = 0;
        for (int owner = 0; owner < OWNERS; owner++) {
            all += land.areaOf(owner);
        }
        return all == CELLS && isToldByTitles(day);
    }

    /** The titles alone are followed here, so that an owner whom no instrument of the title made is found. */
    private boolean isToldByTitles(int day) {
        told.clear();
        for (int place = 0; place < register.size(); place++) {
            Instrument next = register.placed(place);
            if (next == null || next.day > day) {
                break;
            }
            followLinksOf(next);
        }
        return told.hasOwnersOf(land);
    }

    private void followLinksOf(Instrument instrument) {
        for (int cell = 0; cell < CELLS; cell++) {
            if (land.hasLink(cell, instrument.number)) {
                told.give(cell, instrument.newOwnerOf(cell, told), instrument.number);
            }
        }
    }

    private boolean areDeedsSound() {
        for (int number = 0; number < register.size(); number++) {
            Deed deed = asDeed(register.numbered(number));
            if (deed != null && deed.changes + deed.missed != Long.bitCount(deed.cells)) {
                return false;
            }
        }
        return true;
    }

    // ---- the checksum

    private static long mix(long d, long v) {
        return d * 31 + v;
    }

    private static long mixInstrument(long d, Instrument instrument) {
        if (instrument == null) {
            return d;
        }
        for (int what = 0; what <= LAST_INSTRUMENT_FACT; what++) {
            d = mix(d, instrumentFact(instrument, what));
        }
        Deed deed = asDeed(instrument);
        if (deed == null) {
            return d;
        }
        for (int what = 0; what <= LAST_DEED_FACT; what++) {
            d = mix(d, deedFact(deed, what));
        }
        for (int corner = 0; corner < deed.ring.size(); corner++) {
            d = mix(d, deed.ring.xOf(corner));
            d = mix(d, deed.ring.yOf(corner));
        }
        return d;
    }

    private long mixDay(long d, int day) {
        showDay(day);
        for (int row = 0; row < SIDE; row++) {
            d = mix(d, land.lineOf(row));
            for (int x = 0; x < SIDE; x++) {
                d = mix(d, land.ownerOf(cellAt(x, row)));
                d = mix(d, land.titleLengthOf(cellAt(x, row)));
            }
        }
        for (int owner = 0; owner < OWNERS; owner++) {
            d = mix(d, land.areaOf(owner));
            d = mix(d, land.cutFor(owner, 4));
        }
        return mix(d, land.borderLength());
    }

    /** The one draft; its rows are used again for each that is begun. */
    private static final class Draft {
        private final int[] dxs = new int[MAX_COURSES];
        private final int[] dys = new int[MAX_COURSES];
        private boolean isOpen;
        private int courses;
        private int grantor;
        private int grantee;
        private int beginX;
        private int beginY;

        void begin(int newGrantor, int newGrantee, int x, int y) {
            isOpen = true;
            courses = 0;
            grantor = newGrantor;
            grantee = newGrantee;
            beginX = x;
            beginY = y;
        }

        void close() {
            isOpen = false;
        }

        boolean hasRoom() {
            return isOpen && courses < MAX_COURSES;
        }

        boolean isClosable() {
            return isOpen && courses >= MIN_COURSES;
        }

        int courseCount() {
            return isOpen ? courses : NONE;
        }

        void add(int dx, int dy) {
            if (courses >= 0 && courses < MAX_COURSES) {
                dxs[courses] = dx;
                dys[courses] = dy;
                courses++;
            }
        }

        int errorX() {
            return sumOf(dxs);
        }

        int errorY() {
            return sumOf(dys);
        }

        private int sumOf(int[] steps) {
            int sum = 0;
            for (int k = 0; k < courses && k < steps.length; k++) {
                sum += steps[k];
            }
            return sum;
        }

        private int wholeLength() {
            int sum = 0;
            for (int k = 0; k < courses && k < MAX_COURSES; k++) {
                sum += Math.abs(dxs[k]) + Math.abs(dys[k]);
            }
            return sum;
        }

        void drawInto(Ring ring) {
            int whole = wholeLength();
            int errorX = errorX();
            int errorY = errorY();
            int x = beginX;
            int y = beginY;
            int length = 0;
            ring.clear();
            for (int k = 0; k < courses && k < MAX_COURSES; k++) {
                ring.add(x - shareOf(errorX, length, whole), y - shareOf(errorY, length, whole));
                x += dxs[k];
                y += dys[k];
                length += Math.abs(dxs[k]) + Math.abs(dys[k]);
            }
        }

        private static int shareOf(int error, int length, int whole) {
            return whole == 0 ? 0 : error * length / whole;
        }
    }

    /** The corners of a deed, in their order around it. */
    private static final class Ring {
        private final int[] xs = new int[MAX_COURSES];
        private final int[] ys = new int[MAX_COURSES];
        private int corners;

        void clear() {
            corners = 0;
        }

        void add(int x, int y) {
            if (corners >= 0 && corners < MAX_COURSES) {
                xs[corners] = x;
                ys[corners] = y;
                corners++;
            }
        }

        int size() {
            return corners;
        }

        boolean hasCorner(int corner) {
            return corner >= 0 && corner < corners && corner < MAX_COURSES;
        }

        int xOf(int corner) {
            return hasCorner(corner) ? xs[corner] : 0;
        }

        int yOf(int corner) {
            return hasCorner(corner) ? ys[corner] : 0;
        }

        private int behind(int corner) {
            return corner + 1 < corners ? corner + 1 : 0;
        }

        int areaDoubled() {
            int sum = 0;
            for (int k = 0; k < corners; k++) {
                int next = behind(k);
                sum += xOf(k) * yOf(next) - xOf(next) * yOf(k);
            }
            return Math.abs(sum);
        }

        /** One bit a cell, so that a deed needs no row of its own for them. */
        long cellsWithin() {
            long cells = 0;
            for (int cell = 0; cell < CELLS; cell++) {
                if (isWithin(cell % SIDE, cell / SIDE)) {
                    cells |= 1L << cell;
                }
            }
            return cells;
        }

        private boolean isWithin(int x, int y) {
            boolean isOdd = false;
            for (int k = 0; k < corners; k++) {
                if (isCrossed(k, 2 * x + 1, 2 * y + 1)) {
                    isOdd = !isOdd;
                }
            }
            return isOdd;
        }

        /** All is doubled, so that a cell's middle is whole; then no end is as high as it. */
        private boolean isCrossed(int side, int midX, int midY) {
            int fromX = 2 * xOf(side);
            int fromY = 2 * yOf(side);
            int toX = 2 * xOf(behind(side));
            int toY = 2 * yOf(behind(side));
            if ((fromY > midY) == (toY > midY)) {
                return false;
            }
            // The way east of the middle, times the rise: so nothing is divided, and nothing rounded.
            int rise = toY - fromY;
            int east = (fromX - midX) * rise + (midY - fromY) * (toX - fromX);
            return rise > 0 ? east > 0 : east < 0;
        }
    }

    /** Owners, titles and lines as a part of the instruments has made them. */
    private static final class Land {
        private final int[] owners = new int[CELLS];
        /** One bit an instrument: none acts twice on a cell, and the register tells their order. */
        private final int[] titles = new int[CELLS];
        private final int[] lines = new int[SIDE];

        void clear() {
            Arrays.fill(owners, 0);
            Arrays.fill(titles, 0);
            Arrays.fill(lines, FIRST_LINE);
        }

        int ownerOf(int cell) {
            return cell >= 0 && cell < CELLS ? owners[cell] : NONE;
        }

        boolean hasLink(int cell, int instrument) {
            return cell >= 0 && cell < CELLS && (titles[cell] >> instrument & 1) == 1;
        }

        int titleLengthOf(int cell) {
            return cell >= 0 && cell < CELLS ? Integer.bitCount(titles[cell]) : 0;
        }

        int lineOf(int row) {
            return isRow(row) ? lines[row] : NONE;
        }

        void setLine(int row, int line) {
            if (isRow(row)) {
                lines[row] = line;
            }
        }

        void give(int cell, int newOwner, int instrument) {
            if (cell >= 0 && cell < CELLS && owners[cell] != newOwner) {
                owners[cell] = newOwner;
                titles[cell] |= 1 << instrument;
            }
        }

        int countLinks(int instrument) {
            int count = 0;
            for (int cell = 0; cell < CELLS; cell++) {
                if (hasLink(cell, instrument)) {
                    count++;
                }
            }
            return count;
        }

        int countOwned(long cells, int owner) {
            int count = 0;
            for (int cell = 0; cell < CELLS; cell++) {
                if ((cells >> cell & 1L) == 1L && ownerOf(cell) == owner) {
                    count++;
                }
            }
            return count;
        }

        int areaOf(int owner) {
            return countOwned(-1L, owner);
        }

        boolean hasOwnersOf(Land other) {
            for (int cell = 0; cell < CELLS; cell++) {
                if (ownerOf(cell) != other.ownerOf(cell)) {
                    return false;
                }
            }
            return true;
        }

        int borderLength() {
            int count = 0;
            for (int y = 0; y < SIDE; y++) {
                for (int x = 0; x < SIDE; x++) {
                    int here = ownerOf(cellAt(x, y));
                    if (x + 1 < SIDE && ownerOf(cellAt(x + 1, y)) != here) {
                        count++;
                    }
                    if (y + 1 < SIDE && ownerOf(cellAt(x, y + 1)) != here) {
                        count++;
                    }
                }
            }
            return count;
        }

        int cutFor(int owner, int wish) {
            int found = 0;
            for (int x = SIDE - 1; x >= 0; x--) {
                for (int y = 0; y < SIDE; y++) {
                    if (ownerOf(cellAt(x, y)) == owner) {
                        found++;
                    }
                }
                if (found >= wish) {
                    return x;
                }
            }
            return NONE;
        }

        String picture(int row) {
            StringBuilder text = new StringBuilder();
            int line = lineOf(row);
            for (int x = 0; x < SIDE; x++) {
                if (x == line) {
                    text.append('|');
                }
                text.append(ownerOf(cellAt(x, row)));
            }
            if (line == SIDE) {
                text.append('|');
            }
            return text.toString();
        }
    }

    /** All instruments, by number and in the order in which they act. */
    private static final class Register {
        private final Instrument[] byNumber = new Instrument[MAX_INSTRUMENTS];
        private final Instrument[] byDay = new Instrument[MAX_INSTRUMENTS];
        private int count;

        int size() {
            return count;
        }

        boolean isFull() {
            return count >= MAX_INSTRUMENTS;
        }

        Instrument numbered(int number) {
            return number >= 0 && number < count && number < MAX_INSTRUMENTS ? byNumber[number] : null;
        }

        Instrument placed(int place) {
            return place >= 0 && place < count && place < MAX_INSTRUMENTS ? byDay[place] : null;
        }

        int countOf(int kind) {
            int found = 0;
            for (int number = 0; number < count; number++) {
                Instrument instrument = numbered(number);
                if (instrument != null && instrument.kind() == kind) {
                    found++;
                }
            }
            return found;
        }

        /** The newest has the greatest number, so it stands behind all others of its day. */
        void enter(Instrument newest) {
            if (count < 0 || count >= MAX_INSTRUMENTS) {
                return;
            }
            int place = count;
            while (place > 0 && isLater(byDay[place - 1], newest)) {
                byDay[place] = byDay[place - 1];
                place--;
            }
            byDay[place] = newest;
            byNumber[count] = newest;
            count++;
        }

        private static boolean isLater(Instrument one, Instrument other) {
            return one != null && one.day > other.day;
        }
    }

    private abstract static class Instrument {
        final int number;
        final int day;
        int changes;

        Instrument(int number, int day) {
            this.number = number;
            this.day = day;
        }

        abstract int kind();

        abstract void actOn(Land on);

        /** Whose a cell becomes by it, if it becomes anybody's. */
        abstract int newOwnerOf(int cell, Land on);
    }

    private static final class Deed extends Instrument {
        final int grantor;
        final int grantee;
        final int errorX;
        final int errorY;
        final Ring ring;
        final long cells;
        int missed;

        Deed(int number, int day, Draft draft, Ring drawn) {
            super(number, day);
            grantor = draft.grantor;
            grantee = draft.grantee;
            errorX = draft.errorX();
            errorY = draft.errorY();
            ring = drawn;
            cells = drawn.cellsWithin();
        }

        int kind() {
            return DEED;
        }

        void actOn(Land on) {
            for (int cell = 0; cell < CELLS; cell++) {
                if ((cells >> cell & 1L) == 1L && on.ownerOf(cell) == grantor) {
                    on.give(cell, grantee, number);
                }
            }
        }

        int newOwnerOf(int cell, Land on) {
            return grantee;
        }
    }

    private static final class Growth extends Instrument {
        private final int row;
        private final boolean isEast;

        Growth(int number, int day, int row, boolean isEast) {
            super(number, day);
            this.row = row;
            this.isEast = isEast;
        }

        int kind() {
            return GROWTH;
        }

        void actOn(Land on) {
            int line = on.lineOf(row);
            if (line == (isEast ? SIDE : 0)) {
                return;
            }
            // At the county's edge there is no cell on the one side, and the line moves alone.
            if (line > 0 && line < SIDE) {
                int cell = cellAt(isEast ? line : line - 1, row);
                on.give(cell, newOwnerOf(cell, on), number);
            }
            on.setLine(row, isEast ? line + 1 : line - 1);
        }

        int newOwnerOf(int cell, Land on) {
            return on.ownerOf(isEast ? cell - 1 : cell + 1);
        }
    }

    private static final class Jump extends Instrument {
        private final int row;
        private final int line;

        Jump(int number, int day, int row, int line) {
            super(number, day);
            this.row = row;
            this.line = line;
        }

        int kind() {
            return JUMP;
        }

        void actOn(Land on) {
            on.setLine(row, line);
        }

        int newOwnerOf(int cell, Land on) {
            return on.ownerOf(cell);
        }
    }

    private static final class Fence extends Instrument {
        final int setDay;
        private final int cell;
        private final int owner;
        boolean isLifted;
        boolean isVoid;

        Fence(int number, int setDay, int cell, int owner) {
            super(number, setDay + FENCE_DAYS);
            this.setDay = setDay;
            this.cell = cell;
            this.owner = owner;
        }

        /** Lifted too late it is lifted all the same, but it has done what it does. */
        void liftFor(int liftDay) {
            isLifted = true;
            isVoid = liftDay <= day;
        }

        int kind() {
            return FENCE;
        }

        void actOn(Land on) {
            if (!isVoid) {
                on.give(cell, owner, number);
            }
        }

        int newOwnerOf(int askedCell, Land on) {
            return owner;
        }
    }
}
