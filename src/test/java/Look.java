/** What can be seen of a county, as one text. */
final class Look {
    private static final int[] DAYS = {0, 1, 20, 40, 41, 49, 51, 100, 500, 998};

    private Look() {
    }

    /** All facts of the instruments, and the maps of the days 50 and 999. */
    static String brief(County county) {
        StringBuilder text = new StringBuilder();
        text.append(county.digest());
        for (int what = 0; what <= 6; what++) {
            text.append(' ').append(county.county(what));
        }
        return text.toString();
    }

    /** The maps of other days; then steps that show what the draft holds and which fences stand. */
    static String wide(County county) {
        StringBuilder text = new StringBuilder();
        for (int day : DAYS) {
            text.append("\nday ").append(day).append(' ').append(county.wouldFile(day));
            for (int row = 0; row < 8; row++) {
                text.append(' ').append(county.row(row, day));
            }
        }
        text.append("\nlink");
        for (int nth = 0; nth < 3; nth++) {
            text.append(' ').append(county.link(1, 1, nth));
        }
        text.append("\nlift");
        for (int number = 0; number < 24; number++) {
            int fence = number;
            text.append(' ').append(step(() -> county.lift(fence, 999)));
        }
        // Only a draft that is too short to be filed gets more courses: a long one is to be seen as it is.
        int[][] more = {{3, -2}, {-1, 4}, {-2, 1}};
        for (int k = Math.max(0, county.county(5)); k < more.length; k++) {
            int[] to = more[k];
            text.append("\ncourse ").append(step(() -> county.course(to[0], to[1])));
        }
        text.append("\nfile ").append(step(() -> county.file(500)));
        text.append("\ndraft ").append(county.draft(1, 2, 3, 4));
        text.append("\nknock ").append(county.knock());
        return text.append('\n').append(brief(county)).toString();
    }

    private static String step(Check.Call call) {
        try {
            return String.valueOf(call.make());
        } catch (RuntimeException e) {
            return "throws " + e.getClass().getName();
        }
    }
}
