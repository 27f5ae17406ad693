/** A Cornerdeed whose calls are counted: the document tells nothing of an object behind its 512th call. */
final class County {
    static final int MAX_CALLS = 512;

    private final Cornerdeed inner = new Cornerdeed();
    private int calls;

    int callsLeft() {
        return MAX_CALLS - calls;
    }

    private Cornerdeed used() {
        calls++;
        if (calls > MAX_CALLS) {
            throw new AssertionError("the test uses an object for more than 512 calls");
        }
        return inner;
    }

    int draft(int grantor, int grantee, int x, int y) {
        return used().draft(grantor, grantee, x, y);
    }

    int course(int dx, int dy) {
        return used().course(dx, dy);
    }

    int file(int day) {
        return used().file(day);
    }

    int grow(int row, boolean isEast, int day) {
        return used().grow(row, isEast, day);
    }

    int jump(int row, int line, int day) {
        return used().jump(row, line, day);
    }

    int fence(int owner, int x, int y, int day) {
        return used().fence(owner, x, y, day);
    }

    boolean lift(int instrument, int day) {
        return used().lift(instrument, day);
    }

    int knock() {
        return used().knock();
    }

    int ofInstrument(int instrument, int what) {
        return used().ofInstrument(instrument, what);
    }

    int ofDeed(int instrument, int what) {
        return used().ofDeed(instrument, what);
    }

    int corner(int instrument, int corner, boolean isX) {
        return used().corner(instrument, corner, isX);
    }

    int owner(int x, int y, int day) {
        return used().owner(x, y, day);
    }

    int title(int x, int y, int day) {
        return used().title(x, y, day);
    }

    int link(int x, int y, int nth) {
        return used().link(x, y, nth);
    }

    int area(int owner, int day) {
        return used().area(owner, day);
    }

    int line(int row, int day) {
        return used().line(row, day);
    }

    String row(int row, int day) {
        return used().row(row, day);
    }

    int county(int what) {
        return used().county(what);
    }

    int borders(int day) {
        return used().borders(day);
    }

    int cut(int owner, int wish, int day) {
        return used().cut(owner, wish, day);
    }

    int wouldFile(int day) {
        return used().wouldFile(day);
    }

    boolean isSound() {
        return used().isSound();
    }

    long digest() {
        return used().digest();
    }
}
