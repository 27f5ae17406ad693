/** Promises 7 and 8: fences are set and lifted. */
final class FenceTests {
    private FenceTests() {
    }

    static void s3_itsDayIs20DaysLater() {
        County county = new County();
        Check.same("number", county.fence(5, 6, 1, 100), 0);
        Check.same("its day", county.ofInstrument(0, 1), 120);
        Check.same("on the day on which it was set", county.owner(6, 1, 100), 0);
        Check.same("a day ahead", county.owner(6, 1, 119), 0);
        Check.same("its day", county.owner(6, 1, 120), 5);
        Check.same("the last day", county.owner(6, 1, 999), 5);
        Check.same("cells", county.ofInstrument(0, 2), 1);
        Check.same("title a day ahead", county.title(6, 1, 119), 0);
        Check.same("title", county.title(6, 1, 120), 1);
        Check.same("link", county.link(6, 1, 0), 0);
    }

    static void s3_thatCellAlone() {
        int[][] cells = {{0, 0}, {7, 0}, {0, 7}, {7, 7}, {2, 5}};
        for (int[] cell : cells) {
            County county = new County();
            county.fence(3, cell[0], cell[1], 0);
            for (int y = 0; y < 8; y++) {
                for (int x = 0; x < 8; x++) {
                    boolean isIt = x == cell[0] && y == cell[1];
                    Check.same("owner", county.owner(x, y, 20), isIt ? 3 : 0);
                }
            }
        }
    }

    static void s3_whoeverHadItByThen() {
        County county = new County();
        for (int owner = 5; owner >= 0; owner--) {
            county.fence(owner, 4, 4, 10 * owner);
        }
        for (int owner = 1; owner <= 5; owner++) {
            Check.same("owner", county.owner(4, 4, 20 + 10 * owner), owner);
            Check.same("title", county.title(4, 4, 20 + 10 * owner), owner);
        }
        Check.same("that of the owner 0 gives nothing", county.ofInstrument(5, 2), 0);
    }

    static void s3_aFenceOnOnesOwnLandIsNoTitle() {
        County county = new County();
        county.fence(0, 2, 2, 0);
        county.fence(4, 2, 2, 10);
        county.fence(4, 2, 2, 20);
        int[] cells = {0, 1, 0};
        for (int number = 0; number < cells.length; number++) {
            Check.same("cells", county.ofInstrument(number, 2), cells[number]);
        }
        Check.same("title", county.title(2, 2, 999), 1);
        Check.same("link", county.link(2, 2, 0), 1);
    }

    static void p07_theDays0And979And980() {
        County county = new County();
        county.fence(1, 0, 0, 0);
        county.fence(2, 1, 0, 979);
        county.fence(3, 2, 0, 980);
        county.fence(4, 3, 0, 999);
        int[] days = {20, 999, 1000, 1019};
        for (int number = 0; number < days.length; number++) {
            Check.same("day", county.ofInstrument(number, 1), days[number]);
        }
        Check.same("the day 19", county.row(0, 19), "0000|0000");
        Check.same("the day 20", county.row(0, 20), "1000|0000");
        Check.same("the day 998", county.row(0, 998), "1000|0000");
        Check.same("the day 999", county.row(0, 999), "1200|0000");
    }

    /** Behind the day 999 they follow one another as well: that of 1018 acts ahead of that of 1019. */
    static void s3_aDayAbove999() {
        County county = new County();
        county.fence(3, 0, 1, 999);
        county.fence(3, 0, 1, 998);
        county.fence(2, 0, 1, 980);
        Check.same("by that of 1019", county.ofInstrument(0, 2), 0);
        Check.same("by that of 1018", county.ofInstrument(1, 2), 1);
        Check.same("by that of 1000", county.ofInstrument(2, 2), 1);
        Check.same("owner", county.owner(0, 1, 999), 0);
        Check.same("title", county.title(0, 1, 999), 0);
        Check.same("link", county.link(0, 1, 0), -1);
        Check.same("area", county.area(2, 999), 0);
    }

    static void p07_theNumbers() {
        County county = new County();
        for (int k = 0; k < 24; k++) {
            Check.same("number", county.fence(k % 6, k % 8, k / 8, 999 - k), k);
        }
    }

    private static void lifted(int set, int lift, boolean isVoid) {
        County county = new County();
        county.fence(3, 2, 2, set);
        Check.same("not lifted yet", county.ofInstrument(0, 3), 0);
        Check.same("set " + set + ", lifted " + lift, county.lift(0, lift), isVoid);
        Check.same("lifted", county.ofInstrument(0, 3), 1);
        Check.same("its day stays", county.ofInstrument(0, 1), set + 20);
        Check.same("cells", county.ofInstrument(0, 2), isVoid ? 0 : 1);
        boolean isSeen = !isVoid && set + 20 <= 999;
        Check.same("owner", county.owner(2, 2, 999), isSeen ? 3 : 0);
        Check.same("title", county.title(2, 2, 999), isSeen ? 1 : 0);
        Check.same("link", county.link(2, 2, 0), isSeen ? 0 : -1);
        Check.same("area", county.area(0, 999), isSeen ? 63 : 64);
    }

    static void s3_liftedTheDayBehindThatOnWhichItWasSet() {
        lifted(10, 11, true);
        lifted(0, 1, true);
    }

    static void s3_liftedADayAheadOfItsDay() {
        lifted(10, 29, true);
        lifted(0, 19, true);
    }

    static void s3_liftedOnItsDay() {
        lifted(10, 30, true);
        lifted(0, 20, true);
        lifted(979, 999, true);
    }

    static void s3_liftedADayBehindItsDay() {
        lifted(10, 31, false);
        lifted(0, 21, false);
        lifted(978, 999, false);
    }

    static void s3_liftedLongBehindItsDay() {
        lifted(10, 999, false);
    }

    static void s3_liftedWhenItsDayIsAbove999() {
        lifted(980, 981, true);
        lifted(980, 999, true);
        lifted(998, 999, true);
    }

    static void p08_theOthersStand() {
        County county = Steps.fences();
        Check.same("number 7", county.lift(7, 8), true);
        Check.same("number 9", county.lift(9, 30), false);
        for (int number = 0; number < 24; number++) {
            Check.same("lifted", county.ofInstrument(number, 3), number == 7 || number == 9 ? 1 : 0);
            Check.same("cells", county.ofInstrument(number, 2), number == 7 ? 0 : 1);
        }
    }

    static void p08_whatOthersDidIsChangedByIt() {
        County county = new County();
        county.fence(1, 0, 0, 0);
        int deed = Steps.box(county, 1, 2, 0, 0, 2, 1, 40);
        Check.same("got", county.ofInstrument(deed, 2), 1);
        Check.same("missed", county.ofDeed(deed, 7), 1);
        county.lift(0, 1);
        Check.same("got", county.ofInstrument(deed, 2), 0);
        Check.same("missed", county.ofDeed(deed, 7), 2);
        Check.same("owner", county.owner(0, 0, 999), 0);
    }

    static void p08_aLiftIsNoInstrument() {
        County county = Steps.fences();
        county.lift(0, 2);
        Check.same("instruments", county.county(0), 24);
        Check.same("fences", county.county(4), 24);
        County next = new County();
        next.fence(1, 0, 0, 0);
        next.lift(0, 5);
        Check.same("the next number", next.fence(1, 0, 0, 0), 1);
        Check.same("the next one does it", next.link(0, 0, 0), 1);
    }
}
