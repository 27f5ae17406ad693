/** Promises 1 to 4: a new county, and how a deed is drafted and filed. */
final class DeedTests {
    private DeedTests() {
    }

    static void p01_allCellsAreOfTheOwner0() {
        for (int day : new int[] {0, 999}) {
            County county = new County();
            for (int y = 0; y < 8; y++) {
                for (int x = 0; x < 8; x++) {
                    Check.same("owner", county.owner(x, y, day), 0);
                    Check.same("title", county.title(x, y, day), 0);
                    Check.same("link", county.link(x, y, 0), -1);
                }
            }
            for (int owner = 0; owner <= 5; owner++) {
                Check.same("area of " + owner, county.area(owner, day), owner == 0 ? 64 : 0);
            }
        }
    }

    static void p01_allLinesAre4AtFirst() {
        County county = new County();
        for (int row = 0; row < 8; row++) {
            for (int day : new int[] {0, 1, 500, 998, 999}) {
                Check.same("line", county.line(row, day), 4);
                Check.same("row", county.row(row, day), "0000|0000");
            }
        }
    }

    static void p01_thereIsNoDraft() {
        Check.same("courses", new County().county(5), -1);
        Check.same("gone", new County().draft(0, 1, 0, 0), -1);
        Check.same("wouldFile", new County().wouldFile(0), -1);
        Check.refused(County::new, IllegalStateException.class, "course", county -> county.course(1, 0));
        Check.refused(County::new, IllegalStateException.class, "file", county -> county.file(0));
    }

    static void p01_thereIsNoInstrumentAndNobodyWasRefused() {
        County county = new County();
        for (int what : new int[] {0, 1, 2, 3, 4, 6}) {
            Check.same("county " + what, county.county(what), 0);
        }
        Check.same("the first number", county.jump(0, 0, 0), 0);
    }

    static void p01_twoCountiesDoNotShareAnything() {
        County one = new County();
        County other = new County();
        Steps.box(one, 0, 1, 0, 0, 8, 8, 0);
        one.fence(2, 1, 1, 5);
        one.jump(0, 0, 0);
        one.draft(0, 1, 0, 0);
        one.knock();
        Check.same("other", Look.brief(other), Look.brief(new County()));
        Check.same("other", Look.wide(other), Look.wide(new County()));
    }

    /** The 6 owners and the 9 corners on a side are all of use. */
    static void p02_anyTwoOwnersAndAnyCorner() {
        County county = new County();
        for (int grantor = 0; grantor <= 5; grantor++) {
            for (int grantee = 0; grantee <= 5; grantee++) {
                if (grantor != grantee) {
                    county.draft(grantor, grantee, 0, 0);
                }
            }
        }
        for (int x = 0; x <= 8; x++) {
            for (int y = 0; y <= 8; y++) {
                Check.same("gone", county.draft(0, 1, x, y), 0);
            }
        }
    }

    static void p02_noneIfThereWasNoDraft() {
        Check.same("a new county", new County().draft(0, 5, 0, 0), -1);
        County county = Steps.drafted(3);
        county.file(3);
        Check.same("behind a filing", county.draft(0, 1, 0, 8), -1);
        Check.same("not a second time", county.draft(0, 1, 0, 8), 0);
    }

    static void p02_theCoursesOfTheDraftThatIsGone() {
        for (int courses = 0; courses <= 10; courses++) {
            County county = Steps.drafted(courses);
            Check.same("gone of " + courses, county.draft(5, 0, 8, 8), courses);
            Check.same("courses now", county.county(5), 0);
            Check.same("the next", county.draft(4, 0, 8, 8), 0);
        }
    }

    static void p02_ofTheDraftThatIsGoneNothingIsLeft() {
        County county = new County();
        Steps.draft(county, 3, 4, 7, 7, 5, 5, 5, -5, 1, 1, 8, 8, -8, -8);
        int deed = Steps.box(county, 0, 2, 1, 2, 3, 4, 9);
        int[] facts = {0, 2, 4, 24, 0, 0, 12, 0};
        for (int what = 0; what < facts.length; what++) {
            Check.same("ofDeed " + what, county.ofDeed(deed, what), facts[what]);
        }
        Check.corners(county, deed, 1, 2, 4, 2, 4, 6, 1, 6);
    }

    /** The error -2 is shared by the lengths 4, 3, 4 and 5 alone: 2 * 11 / 16 is 1, with one of the old ones 0. */
    static void p02_theLengthsOfTheDraftThatIsGoneDoNotCount() {
        County county = Steps.drafted(0);
        for (int k = 0; k < 10; k++) {
            county.course(8, 8);
        }
        Steps.draft(county, 0, 1, 1, 1, 4, 0, 0, 3, -4, 0, 0, -5);
        Check.same("file", county.file(0), 0);
        Check.corners(county, 0, 1, 1, 5, 1, 5, 4, 1, 5);
    }

    static void p02_theDraftThatIsGoneIsNoInstrument() {
        County county = Steps.drafted(4);
        county.draft(0, 2, 0, 0);
        Check.same("instruments", county.county(0), 0);
        Check.same("land", county.area(0, 999), 64);
    }

    static void p02_aDraftIsBegunWith24InstrumentsToo() {
        Check.same("gone", Steps.full().draft(0, 1, 0, 0), -1);
        Check.same("gone", Steps.fullDrafted(3).draft(0, 1, 0, 0), 3);
    }

    static void p03_howManyTheDraftHasThen() {
        County county = new County();
        county.draft(0, 1, 0, 0);
        int[][] steps = {{8, 8}, {-8, -8}, {8, 0}, {0, 8}, {-8, 0}, {0, -8}, {1, -1}, {0, 1}, {1, 0}, {-1, 0}};
        for (int k = 0; k < 10; k++) {
            Check.same("course", county.course(steps[k][0], steps[k][1]), k + 1);
            Check.same("county", county.county(5), k + 1);
        }
        Check.same("filed", county.file(1), 0);
        Check.same("corners", county.ofDeed(0, 2), 10);
    }

    static void p03_theCoursesOfTheNextDraftBeginAt1() {
        County county = Steps.drafted(10);
        county.draft(0, 1, 0, 0);
        Check.same("behind one that is gone", county.course(1, 0), 1);
        county.course(0, 1);
        county.course(-1, -1);
        county.file(0);
        county.draft(0, 1, 0, 0);
        Check.same("behind one that was filed", county.course(1, 0), 1);
    }

    static void p04_theNumberIsThatOfTheInstrument() {
        County county = new County();
        Check.same("the first", Steps.box(county, 0, 1, 0, 0, 1, 1, 5), 0);
        Check.same("the second, for a day ahead", Steps.box(county, 0, 1, 1, 0, 1, 1, 0), 1);
        county.grow(0, true, 1);
        Check.same("behind another kind", Steps.box(county, 0, 1, 2, 0, 1, 1, 999), 3);
        int[] days = {5, 0, 1, 999};
        for (int number = 0; number < days.length; number++) {
            Check.same("day", county.ofInstrument(number, 1), days[number]);
        }
    }

    static void p04_thereIsNoDraftBehindThat() {
        Check.Recipe filed = () -> {
            County county = Steps.drafted(3);
            county.file(999);
            return county;
        };
        Check.same("courses", filed.make().county(5), -1);
        Check.same("wouldFile", filed.make().wouldFile(0), -1);
        Check.refused(filed, IllegalStateException.class, "course behind it", county -> county.course(1, 0));
        Check.refused(filed, IllegalStateException.class, "file again", county -> county.file(0));
    }

    static void p04_aDeedThatIsFiledStaysAsItWasWhenTheNextIsDrafted() {
        County county = new County();
        Steps.draft(county, 0, 1, 0, 0, 2, 0, 0, 2, -2, 0, 0, -1);
        county.file(0);
        Steps.draft(county, 4, 5, 8, 8, -3, 0, 0, -3, 3, 3, -1, -1, 2, 2);
        int[] facts = {0, 1, 4, 8, 0, 1, 4, 0};
        for (int what = 0; what < facts.length; what++) {
            Check.same("ofDeed " + what, county.ofDeed(0, what), facts[what]);
        }
        Check.corners(county, 0, 0, 0, 2, 0, 2, 2, 0, 2);
    }

    static void p04_theDays0And999() {
        County first = Steps.drafted(4);
        first.file(0);
        Check.same("on the day 0", first.area(1, 0), 4);
        County last = Steps.drafted(4);
        last.file(999);
        Check.same("on the day 998", last.area(1, 998), 0);
        Check.same("on the day 999", last.area(1, 999), 4);
    }
}
