/** Promises 13 to 18: the map of a day. */
final class MapTests {
    private MapTests() {
    }

    /** The rows 1 to 3 of the columns 5 and 6 are of the owner 4 from the day 300 on. */
    private static County boxed() {
        County county = new County();
        Steps.box(county, 0, 4, 5, 1, 2, 3, 300);
        return county;
    }

    static void p13_theOwnerOfEachCell() {
        for (int day : new int[] {299, 300, 999}) {
            County county = boxed();
            for (int y = 0; y < 8; y++) {
                for (int x = 0; x < 8; x++) {
                    boolean isIn = day >= 300 && x >= 5 && x < 7 && y >= 1 && y < 4;
                    Check.same("owner", county.owner(x, y, day), isIn ? 4 : 0);
                }
            }
        }
    }

    static void p13_theDays0And999() {
        County county = new County();
        county.fence(5, 0, 7, 979);
        Steps.box(county, 0, 3, 7, 0, 1, 1, 0);
        Check.same("the day 0", county.owner(7, 0, 0), 3);
        Check.same("the day 998", county.owner(0, 7, 998), 0);
        Check.same("the day 999", county.owner(0, 7, 999), 5);
    }

    /** Told from the last day to the first: 2, 1, 0 and 3 is the order of the days. */
    private static County titled() {
        County county = new County();
        Steps.box(county, 2, 3, 0, 0, 1, 1, 90);
        Steps.box(county, 1, 2, 0, 0, 1, 1, 60);
        Steps.box(county, 0, 1, 0, 0, 1, 1, 30);
        Steps.box(county, 3, 0, 0, 0, 1, 1, 95);
        return county;
    }

    static void p14_howManyByThen() {
        County county = titled();
        int[] days = {0, 29, 30, 59, 60, 89, 90, 94, 95, 999};
        int[] titles = {0, 0, 1, 1, 2, 2, 3, 3, 4, 4};
        for (int k = 0; k < days.length; k++) {
            Check.same("title on " + days[k], county.title(0, 0, days[k]), titles[k]);
        }
        Check.same("beside it", county.title(1, 0, 999), 0);
        Check.same("above it", county.title(0, 1, 999), 0);
    }

    /** Only those by which its owner became another one are in it. */
    static void s3_aTitleHasOnlyWhatChangedItsOwner() {
        County county = titled();
        Steps.box(county, 5, 4, 0, 0, 1, 1, 91);
        county.jump(0, 1, 40);
        county.fence(0, 0, 0, 75);
        county.grow(0, false, 96);
        Check.same("title", county.title(0, 0, 999), 4);
        int[] links = {2, 1, 0, 3, -1};
        for (int nth = 0; nth < links.length; nth++) {
            Check.same("link", county.link(0, 0, nth), links[nth]);
        }
    }

    static void s3_aTitleBackToTheFirstOwnerHasAll() {
        County county = titled();
        Check.same("owner", county.owner(0, 0, 999), 0);
        Check.same("title", county.title(0, 0, 999), 4);
    }

    static void s3_twoChangesOnOneDayAreBothInTheTitle() {
        County county = new County();
        Steps.box(county, 0, 1, 3, 3, 1, 1, 8);
        Steps.box(county, 1, 0, 3, 3, 1, 1, 8);
        Check.same("owner", county.owner(3, 3, 8), 0);
        Check.same("title", county.title(3, 3, 8), 2);
        Check.same("the first", county.link(3, 3, 0), 0);
        Check.same("the second", county.link(3, 3, 1), 1);
    }

    static void p15_theInstrumentAtThatPlace() {
        County county = titled();
        int[] links = {2, 1, 0, 3};
        for (int nth = 0; nth < links.length; nth++) {
            Check.same("link " + nth, county.link(0, 0, nth), links[nth]);
        }
    }

    static void p15_noneIfThereAreNotSoMany() {
        Check.same("the 5th of 4", titled().link(0, 0, 4), -1);
        Check.same("far", titled().link(0, 0, 24), -1);
        Check.same("farther", titled().link(0, 0, 32), -1);
        Check.same("farthest", titled().link(0, 0, Integer.MAX_VALUE), -1);
        Check.same("the 1st of none", titled().link(1, 0, 0), -1);
        Check.same("of a new county", new County().link(7, 7, 0), -1);
    }

    static void p15_ofTheDay999WhateverWasAskedAhead() {
        County county = new County();
        Steps.box(county, 0, 1, 0, 0, 1, 1, 999);
        Check.same("title of an early day", county.title(0, 0, 0), 0);
        Check.same("link", county.link(0, 0, 0), 0);
        county.fence(2, 0, 0, 980);
        Check.same("behind the day 999", county.link(0, 0, 1), -1);
        county.fence(3, 0, 0, 979);
        Check.same("on the day 999", county.link(0, 0, 1), 2);
    }

    static void p16_howManyCellsThen() {
        County county = new County();
        Steps.box(county, 0, 5, 0, 0, 8, 3, 10);
        Steps.box(county, 5, 1, 7, 0, 1, 8, 11);
        int[][] due = {{64, 0, 0}, {40, 0, 24}, {40, 3, 21}};
        for (int day = 9; day <= 11; day++) {
            Check.same("area 0", county.area(0, day), due[day - 9][0]);
            Check.same("area 1", county.area(1, day), due[day - 9][1]);
            Check.same("area 5", county.area(5, day), due[day - 9][2]);
            Check.same("area 2", county.area(2, day), 0);
        }
    }

    static void p16_from0To64() {
        County county = new County();
        Steps.box(county, 0, 3, 0, 0, 8, 8, 999);
        Check.same("none", county.area(3, 998), 0);
        Check.same("all", county.area(0, 998), 64);
        Check.same("none", county.area(0, 999), 0);
        Check.same("all", county.area(3, 999), 64);
    }

    static void p16_theFourCornersOfTheCountyCount() {
        County county = new County();
        county.fence(2, 0, 0, 0);
        county.fence(2, 7, 0, 0);
        county.fence(2, 0, 7, 0);
        county.fence(2, 7, 7, 0);
        Check.same("area", county.area(2, 20), 4);
    }

    static void p17_itsLineThen() {
        County county = new County();
        county.jump(6, 7, 10);
        county.grow(6, true, 5);
        county.grow(6, false, 12);
        int[][] due = {{0, 4}, {4, 4}, {5, 5}, {9, 5}, {10, 7}, {11, 7}, {12, 6}, {999, 6}};
        for (int[] d : due) {
            Check.same("line on " + d[0], county.line(6, d[0]), d[1]);
            Check.same("the row 5", county.line(5, d[0]), 4);
            Check.same("the row 7", county.line(7, d[0]), 4);
        }
    }

    static void p17_allLinesFrom0To8() {
        County county = new County();
        for (int row = 0; row < 8; row++) {
            county.jump(row, row, 3);
        }
        county.jump(0, 8, 4);
        for (int row = 0; row < 8; row++) {
            Check.same("line", county.line(row, 3), row);
            Check.same("line", county.line(row, 4), row == 0 ? 8 : row);
        }
    }

    static void p18_fromWestToEast() {
        County county = new County();
        for (int x = 0; x < 8; x++) {
            county.fence(x % 6, x, 3, 0);
        }
        Check.same("row", county.row(3, 20), "0123|4501");
        Check.same("row ahead", county.row(3, 19), "0000|0000");
        Check.same("the row below", county.row(2, 20), "0000|0000");
        Check.same("the row above", county.row(4, 20), "0000|0000");
    }

    static void p18_whereTheLineIs() {
        String[] due = {"|01234501", "0|1234501", "01|234501", "012|34501", "0123|4501", "01234|501", "012345|01",
            "0123450|1", "01234501|"};
        for (int line = 0; line <= 8; line++) {
            County county = new County();
            for (int x = 0; x < 8; x++) {
                county.fence(x % 6, x, 3, 0);
            }
            county.jump(3, line, 0);
            Check.same("row", county.row(3, 20), due[line]);
        }
    }

    static void p18_theRows0And7() {
        County county = new County();
        county.fence(1, 0, 0, 0);
        county.fence(2, 7, 7, 0);
        Check.same("the south", county.row(0, 20), "1000|0000");
        Check.same("the north", county.row(7, 20), "0000|0002");
    }

    static void p13_to_p18_aQuestionChangesNothing() {
        Check.asked(Steps::busy, 3, "owner", county -> county.owner(2, 1, 45));
        Check.asked(Steps::busy, 1, "title", county -> county.title(1, 1, 45));
        Check.asked(Steps::busy, 1, "link", county -> county.link(1, 1, 0));
        Check.asked(Steps::busy, 62, "area", county -> county.area(0, 45));
        Check.asked(Steps::busy, 2, "line", county -> county.line(1, 60));
        Check.asked(Steps::busy, "044|00000", "row", county -> county.row(1, 999));
    }

    static void p10_p11_p12_p19_aQuestionChangesNothing() {
        Check.asked(Steps::busy, 45, "ofInstrument", county -> county.ofInstrument(3, 1));
        Check.asked(Steps::busy, 3, "ofDeed", county -> county.ofDeed(3, 2));
        Check.asked(Steps::busy, 3, "corner", county -> county.corner(3, 1, true));
        Check.asked(Steps::busy, 5, "county", county -> county.county(0));
    }
}
