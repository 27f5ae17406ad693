/** Promises 1 to 4, and what 11 and 12 tell of a deed's shape. */
final class DeedTests {
    private DeedTests() {
    }

    static void p01_aNewCountyIsOfTheOwner0WithoutADraft() {
        Cornerdeed county = new Cornerdeed();
        int[] facts = {0, 0, 0, 0, 0, -1, 0};
        for (int what = 0; what < facts.length; what++) {
            Check.same("county " + what, county.county(what), facts[what]);
        }
        for (int day : new int[] {0, 999}) {
            for (int y = 0; y < 8; y++) {
                for (int x = 0; x < 8; x++) {
                    Check.same("owner", county.owner(x, y, day), 0);
                    Check.same("title", county.title(x, y, day), 0);
                }
                Check.same("line", county.line(y, day), 4);
            }
            Check.same("area 0", county.area(0, day), 64);
            Check.same("area 5", county.area(5, day), 0);
        }
        Check.same("link", county.link(0, 0, 0), -1);
    }

    static void p01_twoCountiesDoNotShareAnything() {
        Cornerdeed one = new Cornerdeed();
        Cornerdeed other = new Cornerdeed();
        Steps.box(one, 0, 1, 0, 0, 8, 8, 0);
        one.draft(0, 1, 0, 0);
        one.knock();
        Check.same("other", Look.at(other), Look.at(new Cornerdeed()));
    }

    static void p02_draftTellsTheCoursesOfTheOneThatIsGone() {
        Cornerdeed county = new Cornerdeed();
        Check.same("first", county.draft(0, 5, 0, 0), -1);
        Check.same("none walked", county.draft(5, 0, 8, 8), 0);
        county.course(1, 0);
        county.course(0, 1);
        Check.same("two", county.draft(1, 2, 8, 0), 2);
        Check.same("courses now", county.county(5), 0);
        county.course(1, 1);
        county.course(-1, 1);
        county.course(0, -2);
        county.file(3);
        Check.same("behind a filing", county.draft(0, 1, 0, 8), -1);
    }

    static void p02_aNewDraftForgetsTheOldOne() {
        Cornerdeed county = new Cornerdeed();
        Steps.draft(county, 3, 4, 7, 7, 5, 5, 5, -5, 1, 1, 8, 8);
        int deed = Steps.box(county, 0, 2, 1, 2, 3, 4, 9);
        int[] facts = {0, 2, 4, 24, 0, 0, 12, 0};
        for (int what = 0; what < facts.length; what++) {
            Check.same("ofDeed " + what, county.ofDeed(deed, what), facts[what]);
        }
    }

    static void p02_draftRefusesWrongOwnersAndCorners() {
        Cornerdeed county = new Cornerdeed();
        Steps.draft(county, 0, 1, 1, 1, 2, 0, 0, 2, -2, -2);
        int[][] wrong = {
            {-1, 1, 0, 0}, {6, 1, 0, 0}, {0, -1, 0, 0}, {0, 6, 0, 0}, {3, 3, 0, 0}, {0, 0, 8, 8},
            {0, 1, -1, 0}, {0, 1, 9, 0}, {0, 1, 0, -1}, {0, 1, 0, 9},
            {Integer.MIN_VALUE, 1, 0, 0}, {0, Integer.MAX_VALUE, 0, 0}, {0, 1, Integer.MAX_VALUE, Integer.MIN_VALUE},
        };
        for (int[] w : wrong) {
            Check.refused(county, IllegalArgumentException.class, "draft",
                () -> county.draft(w[0], w[1], w[2], w[3]));
        }
    }

    static void p03_courseCountsUpTo10() {
        Cornerdeed county = new Cornerdeed();
        county.draft(0, 1, 0, 0);
        int[][] steps = {{8, 8}, {-8, -8}, {8, 0}, {0, 8}, {-8, 0}, {0, -8}, {1, -1}, {0, 1}, {1, 0}, {-1, 0}};
        for (int k = 0; k < 10; k++) {
            Check.same("course", county.course(steps[k][0], steps[k][1]), k + 1);
            Check.same("county", county.county(5), k + 1);
        }
        Check.refused(county, IllegalStateException.class, "the 11th", () -> county.course(1, 1));
        Check.same("filed", county.file(1), 0);
        Check.same("corners", county.ofDeed(0, 2), 10);
    }

    static void p03_courseRefuses() {
        Cornerdeed county = new Cornerdeed();
        Check.refused(county, IllegalStateException.class, "without a draft", () -> county.course(1, 1));
        int[][] wrong = {{0, 0}, {9, 0}, {-9, 0}, {0, 9}, {0, -9}, {Integer.MIN_VALUE, 1}, {1, Integer.MAX_VALUE}};
        for (int[] w : wrong) {
            Check.refused(county, IllegalArgumentException.class, "wrong ahead of no draft",
                () -> county.course(w[0], w[1]));
        }
        county.draft(0, 1, 0, 0);
        for (int[] w : wrong) {
            Check.refused(county, IllegalArgumentException.class, "wrong", () -> county.course(w[0], w[1]));
        }
        for (int k = 0; k < 10; k++) {
            county.course(1, 0);
        }
        Check.refused(county, IllegalArgumentException.class, "wrong ahead of full", () -> county.course(0, 0));
    }

    static void p04_fileNumbersAndEndsTheDraft() {
        Cornerdeed county = new Cornerdeed();
        Steps.draft(county, 0, 1, 0, 0, 1, 0, 0, 1, -1, -1);
        Check.same("file", county.file(999), 0);
        Check.same("no draft", county.county(5), -1);
        Check.same("an instrument", county.county(0), 1);
        Check.refused(county, IllegalStateException.class, "course behind it", () -> county.course(1, 0));
        Check.refused(county, IllegalStateException.class, "file again", () -> county.file(0));
        Steps.draft(county, 0, 1, 0, 0, 1, 0, 0, 1, -1, -1);
        Check.same("file for a day that is long past", county.file(0), 1);
        Check.same("day", county.ofInstrument(1, 1), 0);
    }

    static void p04_fileNeeds3Courses() {
        Cornerdeed county = new Cornerdeed();
        Check.refused(county, IllegalStateException.class, "without a draft", () -> county.file(0));
        county.draft(0, 1, 0, 0);
        Check.refused(county, IllegalStateException.class, "0 courses", () -> county.file(0));
        county.course(4, 0);
        county.course(0, 4);
        Check.refused(county, IllegalStateException.class, "2 courses", () -> county.file(0));
        Check.refused(county, IllegalArgumentException.class, "day ahead of 2 courses", () -> county.file(-1));
        county.course(-4, -4);
        Check.refused(county, IllegalArgumentException.class, "day -1", () -> county.file(-1));
        Check.refused(county, IllegalArgumentException.class, "day 1000", () -> county.file(1000));
        Check.same("3 courses", county.file(0), 0);
    }

    static void p04_fileRefusesThe25th() {
        Cornerdeed county = Steps.full();
        Steps.draft(county, 0, 1, 0, 0, 1, 0, 0, 1, -1, -1);
        Check.refused(county, IllegalStateException.class, "the 25th", () -> county.file(0));
        Check.refused(county, IllegalArgumentException.class, "day ahead of it", () -> county.file(1000));
        Check.same("the draft stands", county.county(5), 3);
    }

    static void p04_the24thCanBeADeed() {
        Cornerdeed county = new Cornerdeed();
        for (int k = 0; k < 23; k++) {
            county.jump(0, 3, 1);
        }
        Check.same("the last", Steps.box(county, 0, 1, 0, 0, 2, 2, 0), 23);
        Check.same("cells", county.ofInstrument(23, 2), 4);
    }

    /** The errors 1 and -2 over the lengths 6, 14, 18 of 27: nothing is rounded but towards 0. */
    static void p12_theErrorIsSharedByLength() {
        Cornerdeed county = new Cornerdeed();
        Steps.draft(county, 2, 0, 2, 2, 6, 0, -3, 5, -3, 1, 1, -8);
        county.file(11);
        corners(county, 0, 2, 2, 8, 2, 5, 8, 2, 9);
        Check.same("error x", county.ofDeed(0, 4), 1);
        Check.same("error y", county.ofDeed(0, 5), -2);
        Check.same("area doubled", county.ofDeed(0, 3), 57);
    }

    /** The errors -7 and 13 over the lengths 5, 6, 10, 18 of 22: -1, -1, -3, -5 and 2, 3, 5, 10. */
    static void p12_bothSignsOfTheErrorGoTowards0() {
        Cornerdeed county = new Cornerdeed();
        Steps.draft(county, 0, 1, 8, 0, -2, 3, 1, 0, -4, 0, -2, 6, 0, 4);
        Check.same("file", county.file(0), 0);
        Check.same("error x", county.ofDeed(0, 4), -7);
        Check.same("error y", county.ofDeed(0, 5), 13);
        corners(county, 0, 8, 0, 7, 1, 8, 0, 6, -2, 6, -1);
    }

    static void p12_aWalkThatNeverTurnsHasNoArea() {
        Cornerdeed county = new Cornerdeed();
        Steps.draft(county, 0, 1, 0, 0, 8, 8, 8, 8, 8, 8);
        county.file(0);
        Check.same("error x", county.ofDeed(0, 4), 24);
        corners(county, 0, 0, 0, 0, 0, 0, 0);
        Check.same("area doubled", county.ofDeed(0, 3), 0);
        Check.same("within", county.ofDeed(0, 6), 0);
    }

    static void p11_cornersMayLieOutOfTheCounty() {
        Cornerdeed county = new Cornerdeed();
        int north = Steps.box(county, 0, 1, 8, 8, 8, 8, 0);
        corners(county, north, 8, 8, 16, 8, 16, 16, 8, 16);
        Check.same("area doubled", county.ofDeed(north, 3), 128);
        Check.same("within", county.ofDeed(north, 6), 0);
        Steps.draft(county, 0, 1, 0, 0, -8, 3, 8, 2, 8, -8, -8, 3);
        int west = county.file(0);
        corners(county, west, 0, 0, -8, 3, 0, 5, 8, -3);
        Check.same("area doubled", county.ofDeed(west, 3), 80);
        // Only the side from 0, 5 to 8, -3 is east of middles, at x = 5 - y.
        Check.same("within", county.ofDeed(west, 6), 10);
        Check.same("row 0", county.row(0, 0), "1111|0000");
        Check.same("row 1", county.row(1, 0), "1110|0000");
        Check.same("row 3", county.row(3, 0), "1000|0000");
        Check.same("row 4", county.row(4, 0), "0000|0000");
    }

    /** Middles on the west sides are within, those on the east sides are not. */
    static void p11_aSideThroughAMiddleIsNotEastOfIt() {
        Cornerdeed county = new Cornerdeed();
        Steps.draft(county, 0, 1, 4, 0, 4, 4, -4, 4, -4, -4, 4, -4);
        county.file(0);
        Check.same("area doubled", county.ofDeed(0, 3), 64);
        Check.same("within", county.ofDeed(0, 6), 32);
        String[] rows = {"0001|0000", "0011|1000", "0111|1100", "1111|1110", "1111|1110", "0111|1100", "0011|1000",
            "0001|0000"};
        for (int y = 0; y < 8; y++) {
            Check.same("row " + y, county.row(y, 0), rows[y]);
        }
    }

    static void p11_theWayAroundDoesNotMatter() {
        Cornerdeed county = new Cornerdeed();
        Steps.draft(county, 0, 1, 1, 1, 0, 3, 4, 0, 0, -3, -4, 0);
        county.file(0);
        Check.same("area doubled", county.ofDeed(0, 3), 24);
        Check.same("within", county.ofDeed(0, 6), 12);
        Steps.draft(county, 1, 0, 1, 1, 4, 0, 0, 3, -4, 0, 0, -3);
        county.file(0);
        Check.same("area doubled", county.ofDeed(1, 3), 24);
        Check.same("all given back", county.area(0, 0), 64);
    }

    /** Two triangles that are walked against one another: their areas take each other away. */
    static void p11_aWalkThatCrossesItself() {
        Cornerdeed county = new Cornerdeed();
        Steps.draft(county, 0, 1, 0, 0, 4, 4, 0, -4, -4, 4, 0, -4);
        county.file(0);
        Check.same("area doubled", county.ofDeed(0, 3), 0);
        Check.same("within", county.ofDeed(0, 6), 8);
        String[] rows = {"0001|0000", "1011|0000", "1011|0000", "0001|0000", "0000|0000"};
        for (int y = 0; y < rows.length; y++) {
            Check.same("row " + y, county.row(y, 0), rows[y]);
        }
    }

    static void p11_whatIsWalkedAroundTwiceIsNotWithin() {
        Cornerdeed county = new Cornerdeed();
        Steps.draft(county, 0, 1, 1, 1, 2, 0, 0, 2, -2, 0, 0, -2, 2, 0, 0, 2, -2, 0, 0, -2);
        county.file(0);
        Check.same("area doubled", county.ofDeed(0, 3), 16);
        Check.same("within", county.ofDeed(0, 6), 0);
    }

    /** Its slanted side is at x = 1/10, 3/10, 5/10, 7/10, 9/10: the last two are truly east of 1/2. */
    static void p11_nothingIsRounded() {
        Cornerdeed county = new Cornerdeed();
        Steps.draft(county, 0, 1, 0, 0, 1, 5, -1, 0, 0, -5);
        county.file(0);
        Check.same("within", county.ofDeed(0, 6), 2);
        for (int y = 0; y < 5; y++) {
            Check.same("owner " + y, county.owner(0, y, 0), y >= 3 ? 1 : 0);
        }
    }

    private static void corners(Cornerdeed county, int deed, int... due) {
        Check.same("corners", county.ofDeed(deed, 2), due.length / 2);
        for (int k = 0; 2 * k + 1 < due.length; k++) {
            Check.same("x of corner " + k, county.corner(deed, k, true), due[2 * k]);
            Check.same("y of corner " + k, county.corner(deed, k, false), due[2 * k + 1]);
        }
    }
}
