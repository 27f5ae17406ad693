/** Promises 9 to 12 and 19: what the vault, the instruments, the deeds and the county tell of themselves. */
final class FactTests {
    private FactTests() {
    }

    static void p09_withThis() {
        County county = new County();
        for (int k = 1; k <= 40; k++) {
            Check.same("knock", county.knock(), k);
            Check.same("refused", county.county(6), k);
        }
    }

    static void p09_anObjectsLastCallMayBeTheKnock512() {
        County county = new County();
        for (int k = 1; k <= 512; k++) {
            Check.same("knock", county.knock(), k);
        }
    }

    static void p09_nothingElseIsChangedByIt() {
        County county = Steps.busy();
        String land = county.row(1, 50);
        county.knock();
        Check.same("land", county.row(1, 50), land);
        Check.same("courses", county.county(5), 4);
        Check.same("instruments", county.county(0), 5);
        Check.same("a full county too", Steps.full().knock(), 1);
    }

    static void p09_eachCountyHasItsOwn() {
        County one = new County();
        one.knock();
        one.knock();
        Check.same("another county", new County().knock(), 1);
    }

    /** Only who knocks is counted: no exception, no NONE and no fence. */
    static void p09_nothingElseIsCounted() {
        Check.refused(County::new, IllegalStateException.class, "file", county -> county.file(0));
        County county = Steps.busy();
        county.wouldFile(0);
        county.fence(1, 1, 1, 1);
        Check.same("refused", county.county(6), 2);
    }

    static void p10_what0ItsKind() {
        int[] busy = {2, 3, 1, 0, 3};
        County county = Steps.busy();
        for (int number = 0; number < busy.length; number++) {
            Check.same("kind", county.ofInstrument(number, 0), busy[number]);
        }
        County full = Steps.full();
        for (int number = 0; number < 24; number++) {
            Check.same("kind", full.ofInstrument(number, 0), number % 4);
        }
    }

    static void p10_what1ItsDay() {
        int[] busy = {60, 40, 70, 45, 50};
        County county = Steps.busy();
        for (int number = 0; number < busy.length; number++) {
            Check.same("day", county.ofInstrument(number, 1), busy[number]);
        }
        County full = Steps.full();
        for (int k = 0; k < 6; k++) {
            Check.same("day of a deed", full.ofInstrument(4 * k, 1), 10 * k);
            Check.same("day of a growth", full.ofInstrument(4 * k + 1, 1), 100 * k);
            Check.same("day of a jump", full.ofInstrument(4 * k + 2, 1), 100 * k + 50);
            Check.same("day of a fence", full.ofInstrument(4 * k + 3, 1), 150 * k + 20);
        }
    }

    /** The deed 0, 1; 3, 1; 3, 2: the cells 1, 1 (the fence's by then) and 2, 1 (later the river's). */
    static void p10_what2HowManyCells() {
        int[] busy = {0, 1, 1, 1, 0};
        County county = Steps.busy();
        for (int number = 0; number < busy.length; number++) {
            Check.same("cells of " + number, county.ofInstrument(number, 2), busy[number]);
        }
    }

    static void p10_what2From0To64Cells() {
        County county = new County();
        Steps.box(county, 0, 1, 0, 0, 8, 8, 0);
        Steps.box(county, 1, 2, 0, 0, 8, 8, 999);
        Steps.box(county, 1, 2, 8, 8, 8, 8, 998);
        Check.same("all", county.ofInstrument(0, 2), 64);
        Check.same("all on the last day", county.ofInstrument(1, 2), 64);
        Check.same("none", county.ofInstrument(2, 2), 0);
    }

    /** A cell that another one takes on the same day, or later, became its grantee's all the same. */
    static void p10_what2OnItsDayNotBehindIt() {
        County county = new County();
        Steps.box(county, 0, 1, 0, 0, 3, 1, 10);
        Steps.box(county, 1, 2, 0, 0, 2, 1, 10);
        Steps.box(county, 2, 0, 0, 0, 1, 1, 11);
        Check.same("the first", county.ofInstrument(0, 2), 3);
        Check.same("the second", county.ofInstrument(1, 2), 2);
        Check.same("the third", county.ofInstrument(2, 2), 1);
    }

    static void p10_what2AlsoAboveTheDay999() {
        County county = new County();
        county.fence(1, 0, 0, 999);
        county.fence(1, 0, 0, 980);
        county.fence(2, 7, 7, 979);
        county.fence(0, 5, 5, 990);
        Check.same("1019, behind that of 1000", county.ofInstrument(0, 2), 0);
        Check.same("1000", county.ofInstrument(1, 2), 1);
        Check.same("999", county.ofInstrument(2, 2), 1);
        Check.same("1010, his land already", county.ofInstrument(3, 2), 0);
        county.lift(1, 999);
        Check.same("1019, when that of 1000 is lifted", county.ofInstrument(0, 2), 1);
        Check.same("1000, lifted", county.ofInstrument(1, 2), 0);
    }

    static void p10_what3WhetherAFenceIsLifted() {
        int[] busy = {0, 0, 0, 0, 1};
        County county = Steps.busy();
        for (int number = 0; number < busy.length; number++) {
            Check.same("lifted", county.ofInstrument(number, 3), busy[number]);
        }
        county.lift(1, 999);
        Check.same("lifted too late is lifted", county.ofInstrument(1, 3), 1);
    }

    static void p10_what3Is0OfAllOthers() {
        County county = Steps.full();
        for (int k = 0; k < 6; k++) {
            county.lift(4 * k + 3, 999);
        }
        for (int number = 0; number < 24; number++) {
            Check.same("lifted", county.ofInstrument(number, 3), number % 4 == 3 ? 1 : 0);
        }
    }

    /** A deed of 4 corners with the error 0, 1, that a fence is ahead of. */
    private static County oneDeed() {
        County county = new County();
        county.fence(5, 2, 2, 10);
        Steps.draft(county, 4, 3, 2, 2, 3, 0, 0, 3, -3, 0, 0, -2);
        county.file(30);
        Steps.draft(county, 0, 3, 2, 2, 3, 0, 0, 3, -3, 0, 0, -2);
        county.file(30);
        return county;
    }

    static void p11_what0TheGrantor() {
        Check.same("of the first", oneDeed().ofDeed(1, 0), 4);
        Check.same("of the second", oneDeed().ofDeed(2, 0), 0);
    }

    static void p11_what1TheGrantee() {
        Check.same("of the first", oneDeed().ofDeed(1, 1), 3);
        Check.same("of another", Steps.deeds().ofDeed(22, 1), 2);
    }

    static void p11_what2HowManyCorners() {
        Check.same("4", oneDeed().ofDeed(2, 2), 4);
        Check.same("3", Steps.deeds().ofDeed(23, 2), 3);
        County ten = Steps.drafted(10);
        ten.file(0);
        Check.same("10", ten.ofDeed(0, 2), 10);
    }

    static void p11_what3TheAreaDoubled() {
        Check.same("its corners are those of a square of 3", oneDeed().ofDeed(2, 3), 18);
    }

    static void p11_what4And5TheError() {
        Check.same("x", oneDeed().ofDeed(2, 4), 0);
        Check.same("y", oneDeed().ofDeed(2, 5), 1);
        Check.same("x of another", Steps.busy().ofDeed(3, 4), 1);
        Check.same("y of another", Steps.busy().ofDeed(3, 5), 2);
    }

    static void p11_what6HowManyCellsAreWithin() {
        Check.same("9, whoever has them", oneDeed().ofDeed(1, 6), 9);
        Check.same("9", oneDeed().ofDeed(2, 6), 9);
    }

    static void p11_what7HowManyWereNotItsGrantors() {
        Check.same("all", oneDeed().ofDeed(1, 7), 9);
        Check.same("one", oneDeed().ofDeed(2, 7), 1);
    }

    /** On the same day those with a smaller number are ahead of it, those with a greater one are not. */
    static void p11_what7JustAheadOfIt() {
        County county = oneDeed();
        county.grow(2, true, 29);
        county.fence(1, 3, 3, 11);
        Check.same("what comes behind it does not count", county.ofDeed(2, 7), 1);
        county.fence(1, 3, 3, 10);
        Check.same("nor by a greater number on its day", county.ofDeed(2, 7), 1);
        county.fence(1, 3, 3, 9);
        Check.same("what comes ahead of it does", county.ofDeed(2, 7), 2);
        Check.same("got", county.ofInstrument(2, 2), 7);
    }

    static void p11_what7CountsTheGranteesToo() {
        County county = new County();
        Steps.box(county, 0, 1, 0, 0, 2, 2, 5);
        Steps.box(county, 0, 1, 0, 0, 4, 4, 5);
        Check.same("missed", county.ofDeed(1, 7), 4);
        Check.same("got", county.ofInstrument(1, 2), 12);
    }

    static void p12_xAndYOfEachCorner() {
        // Its error 1, 2 over the lengths 3 and 5 of 7: nothing and 1 of the 2.
        Check.corners(Steps.busy(), 3, 0, 1, 3, 1, 3, 2);
        Check.corners(oneDeed(), 2, 2, 2, 5, 2, 5, 5, 2, 5);
    }

    static void p19_what0To4HowManyOfEachKind() {
        int[] busy = {5, 1, 1, 1, 2};
        int[] full = {24, 6, 6, 6, 6};
        County one = Steps.busy();
        County other = Steps.full();
        for (int what = 0; what <= 4; what++) {
            Check.same("county " + what, one.county(what), busy[what]);
            Check.same("county " + what + " of a full one", other.county(what), full[what]);
            Check.same("county " + what + " of a new one", new County().county(what), 0);
        }
    }

    static void p19_what1To4OneKindAlone() {
        County deeds = Steps.deeds();
        County fences = Steps.fences();
        County growths = new County();
        County jumps = new County();
        for (int k = 0; k < 24; k++) {
            growths.grow(0, true, 0);
            jumps.jump(0, 0, 0);
        }
        County[] counties = {deeds, growths, jumps, fences};
        for (int kind = 0; kind < 4; kind++) {
            for (int what = 1; what <= 4; what++) {
                Check.same("county", counties[kind].county(what), what == kind + 1 ? 24 : 0);
            }
        }
    }

    static void p19_what5TheCoursesOfTheDraft() {
        for (int courses = 0; courses <= 10; courses++) {
            Check.same("courses", Steps.drafted(courses).county(5), courses);
        }
        Check.same("of a full county", Steps.fullDrafted(7).county(5), 7);
    }

    static void p19_what5NoneWithoutADraft() {
        Check.same("a new county", new County().county(5), -1);
        Check.same("a full one", Steps.full().county(5), -1);
        County county = Steps.drafted(3);
        county.file(0);
        Check.same("behind a filing", county.county(5), -1);
    }

    static void p19_what6HowManyWereRefused() {
        Check.same("a new county", new County().county(6), 0);
        Check.same("two knocks", Steps.busy().county(6), 2);
    }
}
