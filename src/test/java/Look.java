/** All that can be seen of a county, as one text. */
final class Look {
    private static final int[] DAYS = {0, 1, 5, 10, 19, 20, 21, 50, 100, 500, 979, 980, 998, 999};

    private Look() {
    }

    static String at(Cornerdeed county) {
        StringBuilder text = new StringBuilder();
        text.append(county.digest()).append(' ').append(county.isSound());
        for (int what = 0; what <= 6; what++) {
            text.append(' ').append(county.county(what));
        }
        for (int day : DAYS) {
            text.append("\nday ").append(day).append(' ').append(county.wouldFile(day));
            for (int row = 0; row < 8; row++) {
                text.append(' ').append(county.row(row, day));
            }
        }
        for (int number = 0; number < county.county(0); number++) {
            text.append("\ninstrument");
            for (int what = 0; what <= 3; what++) {
                text.append(' ').append(county.ofInstrument(number, what));
            }
        }
        return text.toString();
    }
}
