/** Promises 5 to 8, and the order in which instruments act. */
final class RiverAndFenceTests {
    private RiverAndFenceTests() {
    }

    /** The column x of the row y becomes the owner's on the day 20. */
    private static void claim(Cornerdeed county, int owner, int x, int y) {
        county.fence(owner, x, y, 0);
    }

    static void p05_aGrowthToTheEastGivesTheCellOfTheLine() {
        Cornerdeed county = new Cornerdeed();
        claim(county, 3, 3, 2);
        Check.same("number", county.grow(2, true, 30), 1);
        Check.same("day ahead", county.row(2, 29), "0003|0000");
        Check.same("its day", county.row(2, 30), "00033|000");
        Check.same("line", county.line(2, 30), 5);
        Check.same("other rows", county.row(1, 30), "0000|0000");
        Check.same("cells", county.ofInstrument(1, 2), 1);
        Check.same("title", county.title(4, 2, 30), 1);
        Check.same("link", county.link(4, 2, 0), 1);
    }

    static void p05_aGrowthToTheWestGivesTheCellAheadOfTheLine() {
        Cornerdeed county = new Cornerdeed();
        claim(county, 3, 4, 2);
        Check.same("number", county.grow(2, false, 30), 1);
        Check.same("its day", county.row(2, 30), "000|33000");
        Check.same("line", county.line(2, 30), 3);
        Check.same("cells", county.ofInstrument(1, 2), 1);
        Check.same("link", county.link(3, 2, 0), 1);
        county.grow(2, false, 30);
        Check.same("once more", county.row(2, 30), "00|333000");
    }

    static void p05_aGrowthToOnesOwnLandIsNoTitle() {
        Cornerdeed county = new Cornerdeed();
        county.grow(5, true, 1);
        Check.same("line", county.line(5, 1), 5);
        Check.same("cells", county.ofInstrument(0, 2), 0);
        Check.same("title", county.title(4, 5, 999), 0);
    }

    static void p05_aGrowthAtTheCountysEdges() {
        Cornerdeed county = new Cornerdeed();
        for (int x = 0; x < 8; x++) {
            claim(county, 1 + x % 5, x, 0);
        }
        Check.same("land", county.row(0, 20), "1234|5123");
        county.jump(0, 0, 30);
        county.grow(0, false, 31);
        Check.same("west at 0", county.row(0, 31), "|12345123");
        county.grow(0, true, 32);
        Check.same("east at 0", county.row(0, 32), "1|2345123");
        county.grow(0, false, 33);
        Check.same("west at 1", county.row(0, 33), "|22345123");
        county.jump(0, 8, 40);
        county.grow(0, true, 41);
        Check.same("east at 8", county.row(0, 41), "22345123|");
        county.grow(0, false, 42);
        Check.same("west at 8", county.row(0, 42), "2234512|3");
        county.grow(0, true, 43);
        Check.same("east at 7", county.row(0, 43), "22345122|");
        int[] cells = {0, 0, 1, 0, 0, 0, 1};
        int[] numbers = {9, 10, 11, 12, 13, 14, 15};
        for (int k = 0; k < cells.length; k++) {
            Check.same("cells of " + numbers[k], county.ofInstrument(numbers[k], 2), cells[k]);
        }
    }

    static void p05_growRefuses() {
        Cornerdeed county = new Cornerdeed();
        int[][] wrong = {{-1, 0}, {8, 0}, {0, -1}, {0, 1000}, {Integer.MIN_VALUE, Integer.MAX_VALUE}};
        Cornerdeed full = Steps.full();
        for (int[] w : wrong) {
            Check.refused(county, IllegalArgumentException.class, "grow", () -> county.grow(w[0], true, w[1]));
            Check.refused(full, IllegalArgumentException.class, "ahead of full", () -> full.grow(w[0], false, w[1]));
        }
        Check.refused(full, IllegalStateException.class, "the 25th", () -> full.grow(7, true, 0));
        Check.same("edges", county.grow(7, true, 999), 0);
        Check.same("edges", county.grow(0, true, 0), 1);
    }

    static void p06_aJumpMovesTheLineAlone() {
        Cornerdeed county = new Cornerdeed();
        claim(county, 1, 3, 7);
        claim(county, 2, 4, 7);
        Check.same("number", county.jump(7, 8, 25), 2);
        Check.same("number", county.jump(7, 0, 26), 3);
        Check.same("number", county.jump(7, 0, 27), 4);
        Check.same("ahead", county.row(7, 24), "0001|2000");
        Check.same("to 8", county.row(7, 25), "00012000|");
        Check.same("to 0", county.row(7, 26), "|00012000");
        Check.same("to 0 again", county.row(7, 27), "|00012000");
        Check.same("other row", county.line(6, 27), 4);
        Check.same("cells", county.ofInstrument(2, 2), 0);
    }

    static void p06_jumpRefuses() {
        Cornerdeed county = new Cornerdeed();
        Cornerdeed full = Steps.full();
        int[][] wrong = {{-1, 0, 0}, {8, 0, 0}, {0, -1, 0}, {0, 9, 0}, {0, 0, -1}, {0, 0, 1000},
            {Integer.MAX_VALUE, 0, 0}, {0, Integer.MIN_VALUE, 0}};
        for (int[] w : wrong) {
            Check.refused(county, IllegalArgumentException.class, "jump", () -> county.jump(w[0], w[1], w[2]));
            Check.refused(full, IllegalArgumentException.class, "ahead of full", () -> full.jump(w[0], w[1], w[2]));
        }
        Check.refused(full, IllegalStateException.class, "the 25th", () -> full.jump(0, 0, 0));
        Check.same("edges", county.jump(7, 8, 999), 0);
        Check.same("edges", county.jump(0, 0, 0), 1);
    }

    static void p07_aFenceGives20DaysLater() {
        Cornerdeed county = new Cornerdeed();
        Check.same("number", county.fence(5, 6, 1, 100), 0);
        Check.same("its day", county.ofInstrument(0, 1), 120);
        Check.same("day ahead", county.owner(6, 1, 119), 0);
        Check.same("its day", county.owner(6, 1, 120), 5);
        Check.same("beside it", county.owner(1, 6, 120), 0);
        Check.same("cells", county.ofInstrument(0, 2), 1);
        Check.same("again", county.fence(5, 6, 1, 200), 1);
        Check.same("no title by that", county.ofInstrument(1, 2), 0);
        Check.same("title", county.title(6, 1, 999), 1);
    }

    static void p07_aFenceMayActBehindTheLastDay() {
        Cornerdeed county = new Cornerdeed();
        county.fence(1, 0, 0, 979);
        county.fence(2, 0, 1, 980);
        county.fence(3, 0, 1, 999);
        county.fence(3, 0, 1, 998);
        Check.same("999", county.owner(0, 0, 999), 1);
        Check.same("1000", county.owner(0, 1, 999), 0);
        Check.same("day", county.ofInstrument(1, 1), 1000);
        Check.same("day", county.ofInstrument(2, 1), 1019);
        Check.same("by that of 1000", county.ofInstrument(1, 2), 1);
        Check.same("by that of 1018", county.ofInstrument(3, 2), 1);
        Check.same("by that of 1019", county.ofInstrument(2, 2), 0);
        Check.same("title", county.title(0, 1, 999), 0);
        Check.same("link", county.link(0, 1, 0), -1);
    }

    static void p07_fenceRefuses() {
        Cornerdeed county = new Cornerdeed();
        Cornerdeed full = Steps.full();
        int[][] wrong = {{-1, 0, 0, 0}, {6, 0, 0, 0}, {0, -1, 0, 0}, {0, 8, 0, 0}, {0, 0, -1, 0}, {0, 0, 8, 0},
            {0, 0, 0, -1}, {0, 0, 0, 1000}, {0, 0, 0, Integer.MAX_VALUE}};
        for (int[] w : wrong) {
            Check.refused(county, IllegalArgumentException.class, "fence",
                () -> county.fence(w[0], w[1], w[2], w[3]));
            Check.refused(full, IllegalArgumentException.class, "ahead of full",
                () -> full.fence(w[0], w[1], w[2], w[3]));
        }
        Check.refused(full, IllegalStateException.class, "the 25th", () -> full.fence(0, 0, 0, 0));
        Check.same("edges", county.fence(5, 7, 7, 999), 0);
        Check.same("edges", county.fence(0, 0, 0, 0), 1);
    }

    static void p08_aFenceLiftedByItsDayDoesNothing() {
        Cornerdeed county = new Cornerdeed();
        county.fence(3, 0, 0, 10);
        county.fence(3, 1, 0, 10);
        county.fence(3, 2, 0, 10);
        Check.same("the next day", county.lift(0, 11), true);
        Check.same("its day", county.lift(1, 30), true);
        Check.same("a day too late", county.lift(2, 31), false);
        for (int fence = 0; fence < 3; fence++) {
            Check.same("lifted", county.ofInstrument(fence, 3), 1);
            Check.same("day", county.ofInstrument(fence, 1), 30);
            Check.same("cells", county.ofInstrument(fence, 2), fence == 2 ? 1 : 0);
        }
        Check.same("land", county.row(0, 999), "0030|0000");
        Check.same("title", county.title(1, 0, 999), 0);
    }

    static void p08_aLiftChangesWhatOthersDid() {
        Cornerdeed county = new Cornerdeed();
        county.fence(1, 0, 0, 0);
        int deed = Steps.box(county, 1, 2, 0, 0, 2, 1, 40);
        Check.same("got", county.ofInstrument(deed, 2), 1);
        Check.same("missed", county.ofDeed(deed, 7), 1);
        county.lift(0, 1);
        Check.same("got", county.ofInstrument(deed, 2), 0);
        Check.same("missed", county.ofDeed(deed, 7), 2);
        Check.same("owner", county.owner(0, 0, 999), 0);
    }

    static void p08_aFenceOfTheLastDays() {
        Cornerdeed county = new Cornerdeed();
        county.fence(3, 0, 0, 998);
        Check.same("not lifted", county.ofInstrument(0, 3), 0);
        Check.same("lift", county.lift(0, 999), true);
        Check.same("cells", county.ofInstrument(0, 2), 0);
        county.fence(3, 0, 0, 999);
        Check.refused(county, IllegalStateException.class, "no day behind it", () -> county.lift(1, 999));
    }

    static void p08_liftRefuses() {
        Cornerdeed county = new Cornerdeed();
        Check.refused(county, IndexOutOfBoundsException.class, "none yet", () -> county.lift(0, 5));
        county.fence(3, 0, 0, 10);
        county.grow(0, true, 0);
        county.jump(0, 1, 0);
        Steps.box(county, 0, 1, 0, 0, 1, 1, 0);
        for (int number : new int[] {-1, 4, 24, Integer.MIN_VALUE, Integer.MAX_VALUE}) {
            Check.refused(county, IndexOutOfBoundsException.class, "no such", () -> county.lift(number, 5));
            Check.refused(county, IndexOutOfBoundsException.class, "ahead of day", () -> county.lift(number, -1));
        }
        for (int number = 0; number < 4; number++) {
            int of = number;
            Check.refused(county, IllegalArgumentException.class, "day -1", () -> county.lift(of, -1));
            Check.refused(county, IllegalArgumentException.class, "day 1000", () -> county.lift(of, 1000));
            Check.refused(county, IllegalStateException.class, "its day or no fence", () -> county.lift(of, 10));
        }
        for (int number = 1; number < 4; number++) {
            int of = number;
            Check.refused(county, IllegalStateException.class, "no fence", () -> county.lift(of, 20));
        }
        Check.refused(county, IllegalStateException.class, "ahead of it", () -> county.lift(0, 0));
        Check.same("lift", county.lift(0, 31), false);
        Check.refused(county, IllegalStateException.class, "lifted already", () -> county.lift(0, 12));
    }

    static void p08_liftIsNoInstrument() {
        Cornerdeed county = Steps.full();
        Check.same("instruments", county.county(0), 24);
        Cornerdeed fenced = new Cornerdeed();
        for (int k = 0; k < 24; k++) {
            fenced.fence(1, 0, 0, 1);
        }
        Check.same("lift among 24", fenced.lift(0, 2), true);
        Check.same("instruments", fenced.county(0), 24);
        Check.same("the next one does it", fenced.link(0, 0, 0), 1);
    }

    static void anInstrumentForADayThatIsLongPastActsAheadOfOthers() {
        Cornerdeed county = new Cornerdeed();
        int late = Steps.box(county, 0, 1, 0, 0, 4, 1, 50);
        Check.same("got", county.ofInstrument(late, 2), 4);
        int early = Steps.box(county, 0, 2, 0, 0, 2, 1, 40);
        Check.same("got", county.ofInstrument(late, 2), 2);
        Check.same("missed", county.ofDeed(late, 7), 2);
        Check.same("got", county.ofInstrument(early, 2), 2);
        Check.same("land", county.row(0, 50), "2211|0000");
        Check.same("land", county.row(0, 49), "2200|0000");
        Check.same("land", county.row(0, 39), "0000|0000");
    }

    static void onOneDayTheSmallerNumberActsFirst() {
        Cornerdeed county = new Cornerdeed();
        int first = Steps.box(county, 0, 1, 0, 0, 2, 1, 50);
        int second = Steps.box(county, 1, 2, 0, 0, 1, 1, 50);
        int third = Steps.box(county, 0, 3, 0, 0, 3, 1, 50);
        Steps.box(county, 0, 4, 0, 0, 3, 1, 51);
        Check.same("land", county.row(0, 50), "2130|0000");
        Check.same("land", county.row(0, 51), "2130|0000");
        Check.same("first", county.link(0, 0, 0), first);
        Check.same("second", county.link(0, 0, 1), second);
        Check.same("third", county.link(2, 0, 0), third);
        Check.same("missed by the third", county.ofDeed(third, 7), 2);
        county.fence(5, 0, 0, 30);
        Steps.box(county, 5, 0, 0, 0, 1, 1, 50);
        Check.same("a fence stands by its day, not by that on which it was set", county.row(0, 50), "0130|0000");
        Check.same("link", county.link(0, 0, 2), 4);
        Check.same("link", county.link(0, 0, 3), 5);
    }
}
