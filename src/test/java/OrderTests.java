/** Section 3: in which order the instruments make the map of a day. */
final class OrderTests {
    private OrderTests() {
    }

    static void s3_theMapOfADayIsMadeByThoseOfThatDayAndAhead() {
        County county = new County();
        Steps.box(county, 0, 1, 0, 0, 1, 1, 0);
        Steps.box(county, 0, 2, 1, 0, 1, 1, 500);
        Steps.box(county, 0, 3, 2, 0, 1, 1, 501);
        Steps.box(county, 0, 4, 3, 0, 1, 1, 999);
        Check.same("0", county.row(0, 0), "1000|0000");
        Check.same("1", county.row(0, 1), "1000|0000");
        Check.same("499", county.row(0, 499), "1000|0000");
        Check.same("500", county.row(0, 500), "1200|0000");
        Check.same("501", county.row(0, 501), "1230|0000");
        Check.same("998", county.row(0, 998), "1230|0000");
        Check.same("999", county.row(0, 999), "1234|0000");
    }

    /** All days in turn, forth and back: no map is left of one that was asked for. */
    static void s3_anyDayMayBeAskedForInAnyOrder() {
        County county = new County();
        Steps.box(county, 0, 1, 0, 0, 1, 1, 10);
        Steps.box(county, 1, 2, 0, 0, 1, 1, 20);
        int[] days = {999, 0, 20, 19, 10, 9, 20, 10};
        int[] due = {2, 0, 2, 1, 1, 0, 2, 1};
        for (int k = 0; k < days.length; k++) {
            Check.same("owner on " + days[k], county.owner(0, 0, days[k]), due[k]);
        }
    }

    static void s3_anInstrumentForADayThatIsLongPastActsAheadOfOthers() {
        County county = new County();
        int late = Steps.box(county, 0, 1, 0, 0, 4, 1, 50);
        Check.same("got", county.ofInstrument(late, 2), 4);
        int early = Steps.box(county, 0, 2, 0, 0, 2, 1, 40);
        Check.same("got", county.ofInstrument(late, 2), 2);
        Check.same("missed", county.ofDeed(late, 7), 2);
        Check.same("got", county.ofInstrument(early, 2), 2);
        Check.same("land", county.row(0, 50), "2211|0000");
        Check.same("land", county.row(0, 49), "2200|0000");
        Check.same("land", county.row(0, 39), "0000|0000");
    }

    /** 24 links of one chain, told from the last day to the first. */
    static void s3_twentyFourToldFromTheLastToTheFirst() {
        County county = new County();
        for (int k = 23; k >= 0; k--) {
            Steps.draft(county, k % 6, (k + 1) % 6, 0, 0, 1, 0, 0, 1, -1, 0, 0, -1);
            county.file(10 * k);
        }
        for (int k = 0; k < 24; k++) {
            Check.same("owner", county.owner(0, 0, 10 * k), (k + 1) % 6);
            Check.same("title", county.title(0, 0, 10 * k), k + 1);
            Check.same("link", county.link(0, 0, k), 23 - k);
            Check.same("cells", county.ofInstrument(k, 2), 1);
        }
        Check.same("no 25th link", county.link(0, 0, 24), -1);
    }

    static void s3_onTheSameDayByNumber() {
        County county = new County();
        int first = Steps.box(county, 0, 1, 0, 0, 2, 1, 50);
        int second = Steps.box(county, 1, 2, 0, 0, 1, 1, 50);
        int third = Steps.box(county, 0, 3, 0, 0, 3, 1, 50);
        Steps.box(county, 0, 4, 0, 0, 3, 1, 51);
        Check.same("land", county.row(0, 50), "2130|0000");
        Check.same("land", county.row(0, 51), "2130|0000");
        Check.same("first", county.link(0, 0, 0), first);
        Check.same("second", county.link(0, 0, 1), second);
        Check.same("third", county.link(2, 0, 0), third);
        Check.same("missed by the third", county.ofDeed(third, 7), 2);
    }

    /** 24 on one day: each has its turn by number, also behind others that were told for other days. */
    static void s3_twentyFourOnTheSameDay() {
        County county = new County();
        for (int k = 0; k < 24; k++) {
            Steps.draft(county, k % 6, (k + 1) % 6, 0, 0, 1, 0, 0, 1, -1, 0, 0, -1);
            county.file(7);
        }
        Check.same("owner", county.owner(0, 0, 7), 0);
        Check.same("title", county.title(0, 0, 7), 24);
        Check.same("a day ahead", county.title(0, 0, 6), 0);
        for (int k = 0; k < 24; k++) {
            Check.same("link", county.link(0, 0, k), k);
        }
    }

    static void s3_aFenceStandsByItsDayNotByThatOnWhichItWasSet() {
        County county = new County();
        county.fence(5, 0, 0, 30);
        Steps.box(county, 0, 1, 0, 0, 2, 1, 49);
        Steps.box(county, 5, 2, 0, 0, 2, 1, 50);
        Steps.box(county, 5, 3, 0, 0, 2, 1, 51);
        Check.same("49", county.row(0, 49), "1100|0000");
        Check.same("50", county.row(0, 50), "2100|0000");
        Check.same("51", county.row(0, 51), "2100|0000");
        int[] links = {1, 0, 2, -1};
        for (int nth = 0; nth < links.length; nth++) {
            Check.same("link", county.link(0, 0, nth), links[nth]);
        }
    }

    static void s3_onTheDayOfAFenceTheNumbersDecide() {
        County county = new County();
        Steps.box(county, 0, 1, 0, 0, 1, 1, 50);
        county.fence(5, 0, 0, 30);
        Steps.box(county, 1, 2, 0, 0, 1, 1, 50);
        Check.same("the fence is in between", county.row(0, 50), "5000|0000");
        Check.same("missed", county.ofDeed(2, 7), 1);
    }

    static void s3_growthsAndJumpsOfTheSameDayByNumber() {
        County county = new County();
        county.fence(3, 2, 0, 0);
        county.grow(0, true, 30);
        county.jump(0, 3, 30);
        county.grow(0, true, 30);
        Check.same("land", county.row(0, 30), "0033|0000");
        County other = new County();
        other.fence(3, 2, 0, 0);
        other.jump(0, 3, 30);
        other.grow(0, true, 30);
        other.grow(0, true, 30);
        Check.same("land", other.row(0, 30), "00333|000");
    }

    static void s3_aDeedTakesOnlyWhatIsOfItsGrantorByThen() {
        County county = new County();
        county.fence(2, 1, 0, 0);
        county.fence(3, 2, 0, 0);
        Steps.box(county, 2, 4, 0, 0, 8, 1, 19);
        Steps.box(county, 2, 5, 0, 0, 8, 1, 20);
        Check.same("on the day 19", county.row(0, 19), "0000|0000");
        Check.same("on the day 20", county.row(0, 20), "0530|0000");
        Check.same("too early", county.ofInstrument(2, 2), 0);
        Check.same("on the day", county.ofInstrument(3, 2), 1);
    }

    /** What is its grantee's already stays so, and is none that it got. */
    static void s3_aDeedDoesNotTakeFromItsGrantee() {
        County county = new County();
        Steps.box(county, 0, 1, 0, 0, 2, 1, 5);
        int second = Steps.box(county, 0, 1, 0, 0, 4, 1, 6);
        Check.same("land", county.row(0, 6), "1111|0000");
        Check.same("got", county.ofInstrument(second, 2), 2);
        Check.same("missed", county.ofDeed(second, 7), 2);
        Check.same("title", county.title(0, 0, 999), 1);
    }
}
