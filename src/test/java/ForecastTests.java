import java.math.BigInteger;

/** Promises 20 to 24. */
final class ForecastTests {
    private ForecastTests() {
    }

    static void p20_aCountyOfOneOwnerHasNoBorders() {
        Check.same("a new county", new County().borders(0), 0);
        County county = new County();
        Steps.box(county, 0, 5, 0, 0, 8, 8, 10);
        Check.same("all of another owner", county.borders(10), 0);
    }

    static void p20_howManySides() {
        County county = new County();
        Steps.box(county, 0, 1, 0, 0, 1, 1, 10);
        Check.same("a cell in the corner", county.borders(10), 2);
        Steps.box(county, 0, 1, 7, 7, 1, 1, 11);
        Check.same("two of them", county.borders(11), 4);
        Steps.box(county, 0, 2, 3, 3, 2, 1, 12);
        Check.same("a pair in the middle", county.borders(12), 10);
        Steps.box(county, 0, 3, 3, 4, 2, 1, 13);
        Check.same("unlike neighbours share theirs", county.borders(13), 14);
        Check.same("a day ahead of all", county.borders(9), 0);
    }

    /** The county's own edge is no side between two cells. */
    static void p20_alongTheCountysEdges() {
        int[][] strips = {{0, 0, 8, 1}, {0, 7, 8, 1}, {0, 0, 1, 8}, {7, 0, 1, 8}};
        for (int[] strip : strips) {
            County county = new County();
            Steps.box(county, 0, 1, strip[0], strip[1], strip[2], strip[3], 0);
            Check.same("a strip", county.borders(0), 8);
        }
    }

    static void p20_cellsOfTwoRowsAreNoNeighbours() {
        County county = new County();
        county.fence(1, 7, 3, 0);
        Check.same("at the east edge", county.borders(20), 3);
        County other = new County();
        other.fence(1, 0, 4, 0);
        Check.same("at the west edge", other.borders(20), 3);
    }

    static void p20_upTo112() {
        County county = new County();
        for (int x = 0; x < 8; x += 2) {
            Steps.box(county, 0, 1, x, 0, 1, 8, 0);
        }
        Check.same("stripes", county.borders(0), 56);
        for (int y = 0; y < 8; y += 2) {
            Steps.box(county, 1, 2, 0, y, 8, 1, 1);
            Steps.box(county, 0, 1, 0, y, 8, 1, 1);
            Steps.box(county, 2, 0, 0, y, 8, 1, 1);
        }
        Check.land(county, 1, "0101|0101", "1010|1010", "0101|0101", "1010|1010");
        Check.same("a board", county.borders(1), 112);
    }

    /** Of the owner 1: two cells each at x = 2, 3, 4, 5. */
    private static County owned() {
        County county = new County();
        Steps.box(county, 0, 1, 2, 3, 4, 2, 10);
        return county;
    }

    static void p21_atLeastSoMany() {
        int[] due = {5, 5, 4, 4, 3, 3, 2, 2};
        for (int wish = 1; wish <= 8; wish++) {
            Check.same("cut of " + wish, owned().cut(1, wish, 10), due[wish - 1]);
        }
    }

    static void p21_noneWithoutOne() {
        Check.same("one more than he has", owned().cut(1, 9, 10), -1);
        Check.same("64", owned().cut(1, 64, 10), -1);
        Check.same("a day ahead", owned().cut(1, 1, 9), -1);
        Check.same("he has none", owned().cut(5, 1, 10), -1);
    }

    static void p21_theWishes1And64() {
        Check.same("1 of all", new County().cut(0, 1, 0), 7);
        Check.same("64 of all", new County().cut(0, 64, 0), 0);
        Check.same("64 of 63", boxedOut().cut(0, 64, 0), -1);
        Check.same("63 of 63", boxedOut().cut(0, 63, 0), 0);
    }

    /** The owner 0 has all but the cell 0, 0. */
    private static County boxedOut() {
        County county = new County();
        Steps.box(county, 0, 1, 0, 0, 1, 1, 0);
        return county;
    }

    static void p21_wholeColumns() {
        County county = new County();
        for (int k = 0; k < 8; k++) {
            Check.same("all of " + (k + 1) + " columns", county.cut(0, 8 * k + 8, 0), 7 - k);
            Check.same("one more than " + k, county.cut(0, 8 * k + 1, 0), 7 - k);
        }
    }

    static void p21_aCellAtTheEdges() {
        County county = new County();
        county.fence(3, 0, 5, 0);
        Check.same("x = 0", county.cut(3, 1, 20), 0);
        county.fence(4, 7, 0, 0);
        Check.same("x = 7", county.cut(4, 1, 20), 7);
        Check.same("a day ahead", county.cut(3, 1, 19), -1);
    }

    static void p21_theGreatestXAlthoughItHasNoCell() {
        County county = new County();
        county.fence(3, 6, 0, 0);
        county.fence(3, 2, 7, 0);
        Check.same("one", county.cut(3, 1, 20), 6);
        Check.same("two", county.cut(3, 2, 20), 2);
        Check.same("three", county.cut(3, 3, 20), -1);
    }

    static void p22_noneWithoutADraft() {
        Check.same("a new county", new County().wouldFile(0), -1);
        County county = Steps.drafted(4);
        county.file(0);
        Check.same("behind a filing", county.wouldFile(0), -1);
    }

    static void p22_noneOfFewerThan3Courses() {
        Check.asked(() -> Steps.drafted(0), -1, "0 courses", county -> county.wouldFile(0));
        Check.asked(() -> Steps.drafted(1), -1, "1 course", county -> county.wouldFile(5));
        Check.asked(() -> Steps.drafted(2), -1, "2 courses", county -> county.wouldFile(999));
    }

    /** 2, 3; 4, 3 and 4, 5 less 0, 8 / 6: the cell 3, 3 alone is within. */
    static void p22_3CoursesAreEnough() {
        Check.asked(() -> Steps.drafted(3), 1, "3 courses", county -> county.wouldFile(0));
    }

    /** Two boxes of 2 by 2 that have the cell 2, 3 in common: it is walked around twice. */
    static void p22_10CoursesAreNotTooMany() {
        Check.asked(() -> Steps.drafted(10), 6, "10 courses", county -> county.wouldFile(999));
    }

    static void p22_noneWith24Instruments() {
        Check.asked(() -> Steps.fullDrafted(3), -1, "3 courses", county -> county.wouldFile(0));
        Check.asked(() -> Steps.fullDrafted(10), -1, "10 courses", county -> county.wouldFile(999));
        County county = Steps.drafted(4);
        for (int k = 0; k < 23; k++) {
            county.jump(0, 4, 0);
        }
        Check.same("23", county.wouldFile(0), 4);
        county.jump(0, 4, 0);
        Check.same("24", county.wouldFile(0), -1);
    }

    static void p22_howManyWouldBecomeTheGrantees() {
        County county = new County();
        Steps.box(county, 0, 2, 0, 0, 3, 1, 50);
        Steps.draft(county, 0, 1, 0, 0, 4, 0, 0, 2, -4, 0, 0, -2);
        Check.same("all", county.wouldFile(0), 8);
        Check.same("a day ahead", county.wouldFile(49), 8);
        Check.same("last on that day", county.wouldFile(50), 5);
        Check.same("a day behind", county.wouldFile(51), 5);
        Check.same("the last day", county.wouldFile(999), 5);
        Check.same("file", county.file(50), 1);
        Check.same("what it got", county.ofInstrument(1, 2), 5);
    }

    /** How many on its day: what a later instrument takes then does not matter. */
    static void p22_onThatDayNotBehindIt() {
        County county = new County();
        Steps.box(county, 1, 2, 0, 0, 8, 8, 60);
        Steps.draft(county, 0, 1, 0, 0, 4, 0, 0, 2, -4, 0, 0, -2);
        Check.same("a day ahead of it", county.wouldFile(59), 8);
        Check.same("on its day, behind it", county.wouldFile(60), 8);
    }

    static void p22_from0To64() {
        County county = new County();
        Steps.draft(county, 0, 1, 0, 0, 8, 0, 0, 8, -8, 0, 0, -8);
        Check.same("all", county.wouldFile(0), 64);
        Steps.draft(county, 5, 1, 0, 0, 8, 0, 0, 8, -8, 0, 0, -8);
        Check.same("none is the grantor's", county.wouldFile(0), 0);
    }

    static void p22_nothingIsChanged() {
        Check.asked(Steps::busy, 4, "wouldFile", county -> county.wouldFile(999));
        County county = new County();
        Steps.box(county, 0, 1, 0, 0, 2, 2, 5);
        Steps.draft(county, 0, 2, 4, 4, 3, 0, 0, 3, -3, -3);
        county.wouldFile(5);
        Check.corners(county, 0, 0, 0, 2, 0, 2, 2, 0, 2);
        Check.same("owner", county.owner(0, 0, 5), 1);
        Check.same("courses", county.course(1, 1), 4);
    }

    static void p20_p21_p23_p24_nothingIsChanged() {
        Check.asked(Steps::busy, 7, "borders", county -> county.borders(45));
        Check.asked(Steps::busy, 2, "cut", county -> county.cut(3, 1, 45));
        Check.asked(Steps::busy, true, "isSound", county -> county.isSound());
        Check.asked(Steps::busy, true, "digest", county -> county.digest() == county.digest());
    }

    static void p23_aNewCountyIsSound() {
        Check.same("new", new County().isSound(), true);
    }

    static void p23_aFullCountyIsSound() {
        Check.same("full", Steps.full().isSound(), true);
        Check.same("24 deeds", Steps.deeds().isSound(), true);
        Check.same("24 fences", Steps.fences().isSound(), true);
    }

    static void p23_soundWhileTheLandChangesHands() {
        County county = new County();
        county.fence(3, 3, 2, 0);
        county.grow(2, true, 30);
        county.grow(2, true, 31);
        county.jump(2, 2, 32);
        county.grow(2, false, 33);
        Steps.box(county, 3, 1, 0, 0, 8, 8, 31);
        Check.same("sound", county.isSound(), true);
        county.lift(0, 10);
        Check.same("sound", county.isSound(), true);
        county.fence(5, 0, 0, 999);
        Check.same("behind the day 999", county.isSound(), true);
    }

    /** Told out by hand from the document, beside what the county itself answers. */
    private static BigInteger ofANewCounty() {
        BigInteger d = BigInteger.valueOf(8803);
        for (int v : new int[] {0, 0, 0, 0, 0, -1, 0}) {
            d = then(d, v);
        }
        for (int day = 0; day < 2; day++) {
            for (int row = 0; row < 8; row++) {
                d = then(d, 4);
                for (int k = 0; k < 16; k++) {
                    d = then(d, 0);
                }
            }
            d = then(then(d, 64), 7);
            for (int owner = 1; owner < 6; owner++) {
                d = then(then(d, 0), -1);
            }
            d = then(d, 0);
        }
        return then(d, 1);
    }

    private static BigInteger then(BigInteger d, int v) {
        return d.multiply(BigInteger.valueOf(31)).add(BigInteger.valueOf(v));
    }

    static void p24_ofANewCounty() {
        Check.same("digest", new County().digest(), ofANewCounty().longValue());
    }

    /** What the checksum would be without an end has some 1500 bits; of these the last 64 are told. */
    static void p24_itWrapsAroundAs64Bits() {
        BigInteger whole = ofANewCounty();
        Check.same("it is far above 64 bits", whole.bitLength() > 1000, true);
        BigInteger last = whole.mod(BigInteger.ONE.shiftLeft(64));
        long digest = new County().digest();
        Check.same("the last 64 bits", Long.toUnsignedString(digest), last.toString());
        Check.same("more than 32 of them", digest == (int) digest, false);
    }

    static void p24_itWrapsAroundBelow0AndAbove() {
        int below = 0;
        int above = 0;
        County county = new County();
        for (int k = 0; k < 30; k++) {
            long d = county.digest();
            if (d < 0) {
                below++;
            } else {
                above++;
            }
            county.knock();
            // One more that was refused: all that comes behind it multiplies it.
            Check.same("the next", county.digest(), d + power(299));
        }
        Check.same("both signs", below > 0 && above > 0, true);
    }

    private static long power(int behind) {
        return BigInteger.valueOf(31).pow(behind).longValue();
    }

    static void p24_ofAllAnswersWith0Instruments() {
        Answers.compare("new", County::new);
        Answers.compare("with a draft", () -> Steps.drafted(0));
        Answers.compare("with another one", () -> Steps.drafted(10));
    }

    static void p24_ofAllAnswersWithSome() {
        Answers.compare("busy", Steps::busy);
        Answers.compare("with 10 corners", () -> {
            County county = Steps.drafted(10);
            county.file(50);
            county.knock();
            return county;
        });
    }

    static void p24_ofAllAnswersWith24Instruments() {
        Answers.compare("full", Steps::full);
        Answers.compare("full, with a draft", () -> Steps.fullDrafted(7));
        Answers.compare("24 deeds", Steps::deeds);
        Answers.compare("24 fences", Steps::fences);
    }

    static void p24_ofFencesAboveTheDay999() {
        Answers.compare("fences", () -> {
            County county = new County();
            county.fence(3, 4, 4, 985);
            county.fence(2, 5, 4, 999);
            county.fence(1, 6, 4, 990);
            county.lift(2, 999);
            return county;
        });
    }

    static void p24_theDays50And999() {
        Answers.compare("around the day 50", () -> {
            County county = new County();
            for (int k = 0; k < 3; k++) {
                Steps.box(county, 0, 1 + k, 2 * k, k, 2, 3, 49 + k);
                county.jump(k, 7 - k, 49 + k);
                Steps.box(county, 0, 1 + k, 2 * k, 4 + k, 2, 1, 997 + k);
                county.jump(7 - k, k, 997 + k);
            }
            return county;
        });
        County one = new County();
        County other = new County();
        one.jump(0, 4, 3);
        other.jump(0, 5, 3);
        Check.same("seen", one.digest() == other.digest(), false);
        one.jump(0, 6, 10);
        other.jump(0, 6, 10);
        Check.same("the line of the days 3 to 9 is not", one.digest(), other.digest());
    }
}
