/** Promises 20 to 24. */
final class ForecastTests {
    private ForecastTests() {
    }

    static void p20_borders() {
        Cornerdeed county = new Cornerdeed();
        Check.same("none", county.borders(0), 0);
        Steps.box(county, 0, 1, 0, 0, 1, 1, 10);
        Check.same("a cell in the corner", county.borders(10), 2);
        Steps.box(county, 0, 1, 7, 7, 1, 1, 11);
        Check.same("two of them", county.borders(11), 4);
        Steps.box(county, 0, 2, 3, 3, 2, 1, 12);
        Check.same("a pair in the middle", county.borders(12), 10);
        Steps.box(county, 0, 3, 3, 4, 2, 1, 13);
        Check.same("unlike neighbours share theirs", county.borders(13), 14);
        Check.same("the days ahead", county.borders(9), 0);
    }

    static void p20_bordersOfStripes() {
        Cornerdeed county = new Cornerdeed();
        for (int x = 0; x < 8; x += 2) {
            Steps.box(county, 0, 1, x, 0, 1, 8, 0);
        }
        Check.same("stripes", county.borders(0), 56);
        Steps.box(county, 1, 2, 0, 0, 8, 4, 1);
        Check.same("stripes of three", county.borders(1), 60);
    }

    static void p20_bordersRefuses() {
        Cornerdeed county = new Cornerdeed();
        for (int day : new int[] {-1, 1000, Integer.MIN_VALUE, Integer.MAX_VALUE}) {
            Check.refused(county, IllegalArgumentException.class, "borders", () -> county.borders(day));
        }
    }

    static void p21_cut() {
        Cornerdeed county = new Cornerdeed();
        Steps.box(county, 0, 1, 2, 3, 4, 2, 10);
        // Of the owner 1: two cells each at x = 2, 3, 4, 5.
        int[] due = {5, 5, 4, 4, 3, 3, 2, 2, -1, -1};
        for (int wish = 1; wish <= 10; wish++) {
            Check.same("cut of " + wish, county.cut(1, wish, 10), due[wish - 1]);
        }
        Check.same("day ahead", county.cut(1, 1, 9), -1);
        Check.same("all", county.cut(0, 64, 9), 0);
        Check.same("not all", county.cut(0, 57, 10), -1);
        Check.same("all but those", county.cut(0, 56, 10), 0);
        Check.same("8 of 0", county.cut(0, 8, 10), 7);
        Check.same("9 of 0", county.cut(0, 9, 10), 6);
        Check.same("23 of 0", county.cut(0, 23, 10), 4);
        Check.same("nobody's", county.cut(5, 1, 10), -1);
    }

    static void p21_cutRefuses() {
        Cornerdeed county = new Cornerdeed();
        for (int owner : new int[] {-1, 6, Integer.MAX_VALUE}) {
            for (int wrong : new int[] {1, 0, -1, 65, 1000}) {
                Check.refused(county, IndexOutOfBoundsException.class, "owner", () -> county.cut(owner, wrong, wrong));
            }
        }
        for (int wish : new int[] {0, 65, -1, Integer.MIN_VALUE, Integer.MAX_VALUE}) {
            Check.refused(county, IllegalArgumentException.class, "wish", () -> county.cut(5, wish, 0));
        }
        for (int day : new int[] {-1, 1000}) {
            Check.refused(county, IllegalArgumentException.class, "day", () -> county.cut(0, 64, day));
        }
    }

    static void p22_wouldFile() {
        Cornerdeed county = new Cornerdeed();
        Check.same("without a draft", county.wouldFile(0), -1);
        Steps.box(county, 0, 2, 0, 0, 3, 1, 50);
        county.draft(0, 1, 0, 0);
        county.course(4, 0);
        county.course(0, 2);
        Check.same("2 courses", county.wouldFile(0), -1);
        county.course(-4, 0);
        // The corners are 0, 0; 4, 0 and 4, 2 less 0, 2 * 6 / 10: its slanted side is at x = 2 at the middles.
        Check.same("3 courses", county.wouldFile(0), 2);
        county.course(0, -2);
        Check.same("4 courses", county.wouldFile(49), 8);
        Check.same("last on that day", county.wouldFile(50), 5);
        Check.same("the last day", county.wouldFile(999), 5);
        Check.same("nothing is changed", county.county(0), 1);
        Check.same("the draft stands", county.county(5), 4);
        Check.same("file", county.file(50), 1);
        Check.same("what it got", county.ofInstrument(1, 2), 5);
        Check.same("behind that", county.wouldFile(50), -1);
    }

    static void p22_wouldFileOfAFullCounty() {
        Cornerdeed county = new Cornerdeed();
        for (int k = 0; k < 23; k++) {
            county.jump(0, 4, 0);
        }
        Steps.draft(county, 0, 1, 0, 0, 2, 0, 0, 2, -2, 0, 0, -2);
        Check.same("23", county.wouldFile(0), 4);
        county.jump(0, 4, 0);
        Check.same("24", county.wouldFile(0), -1);
    }

    static void p22_wouldFileLeavesAFiledDeedAlone() {
        Cornerdeed county = new Cornerdeed();
        Steps.box(county, 0, 1, 0, 0, 2, 2, 5);
        Steps.draft(county, 0, 2, 4, 4, 3, 0, 0, 3, -3, -3);
        String ahead = Look.at(county);
        county.wouldFile(5);
        Check.same("look", Look.at(county), ahead);
        Check.same("corner", county.corner(0, 2, true), 2);
        Check.same("owner", county.owner(0, 0, 5), 1);
    }

    static void p22_wouldFileRefuses() {
        Cornerdeed county = new Cornerdeed();
        for (int day : new int[] {-1, 1000, Integer.MIN_VALUE, Integer.MAX_VALUE}) {
            Check.refused(county, IllegalArgumentException.class, "without a draft", () -> county.wouldFile(day));
        }
        Steps.draft(county, 0, 2, 4, 4, 3, 0, 0, 3, -3, -3);
        for (int day : new int[] {-1, 1000}) {
            Check.refused(county, IllegalArgumentException.class, "with one", () -> county.wouldFile(day));
        }
    }

    static void p23_aCountyIsSound() {
        Cornerdeed county = new Cornerdeed();
        Check.same("new", county.isSound(), true);
        county.fence(3, 3, 2, 0);
        county.grow(2, true, 30);
        county.grow(2, true, 31);
        county.jump(2, 2, 32);
        county.grow(2, false, 33);
        Steps.box(county, 3, 1, 0, 0, 8, 8, 31);
        Check.same("sound", county.isSound(), true);
        county.lift(0, 10);
        Check.same("sound", county.isSound(), true);
    }

    /** Told out by hand from the document, beside what the county itself answers. */
    static void p24_digestOfANewCounty() {
        long d = 8803;
        for (int v : new int[] {0, 0, 0, 0, 0, -1, 0}) {
            d = d * 31 + v;
        }
        for (int day = 0; day < 2; day++) {
            for (int row = 0; row < 8; row++) {
                d = d * 31 + 4;
                for (int k = 0; k < 16; k++) {
                    d = d * 31;
                }
            }
            d = (d * 31 + 64) * 31 + 7;
            for (int owner = 1; owner < 6; owner++) {
                d = d * 31 * 31 - 1;
            }
            d = d * 31;
        }
        d = d * 31 + 1;
        Check.same("digest", new Cornerdeed().digest(), d);
    }

    static void p24_digestIsMadeOfTheAnswers() {
        Cornerdeed county = new Cornerdeed();
        Steps.draft(county, 0, 3, 2, 2, 6, 0, -3, 5, -3, 1, 1, -8);
        county.file(11);
        county.fence(4, 3, 3, 5);
        county.fence(5, 3, 3, 40);
        county.fence(5, 7, 7, 990);
        county.lift(2, 44);
        county.grow(3, false, 49);
        county.jump(4, 8, 51);
        Steps.box(county, 3, 1, 0, 0, 5, 5, 50);
        county.knock();
        county.knock();
        county.draft(2, 1, 0, 0);
        county.course(1, 0);
        Check.same("digest", county.digest(), RandomRunTests.digestOfAnswers(county));
        Check.same("again", county.digest(), RandomRunTests.digestOfAnswers(county));
    }

    static void p24_digestTellsTheDay50AndTheDay999Only() {
        Cornerdeed one = new Cornerdeed();
        Cornerdeed other = new Cornerdeed();
        one.jump(0, 4, 3);
        other.jump(0, 5, 3);
        Check.same("seen", one.digest() == other.digest(), false);
        one.jump(0, 6, 10);
        other.jump(0, 6, 10);
        Check.same("not seen", one.digest(), other.digest());
    }
}
