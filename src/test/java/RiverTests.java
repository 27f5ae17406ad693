/** Promises 5 and 6: the river grows and jumps. */
final class RiverTests {
    private RiverTests() {
    }

    /** The row 0 is 1234 5123 from the day 20 on, and its line is there from the day 30 on. */
    private static County striped(int line) {
        County county = new County();
        for (int x = 0; x < 8; x++) {
            county.fence(1 + x % 5, x, 0, 0);
        }
        county.jump(0, line, 30);
        return county;
    }

    private static void growth(int line, boolean isEast, String due, int cells) {
        County county = striped(line);
        String ahead = county.row(0, 40);
        Check.same("number", county.grow(0, isEast, 40), 9);
        Check.same("a day ahead", county.row(0, 39), ahead);
        Check.same("its day", county.row(0, 40), due);
        Check.same("line", county.line(0, 40), due.indexOf('|'));
        Check.same("the last day", county.row(0, 999), due);
        Check.same("cells", county.ofInstrument(9, 2), cells);
        for (int x = 0; x < 8; x++) {
            boolean isGot = cells == 1 && x == (isEast ? line : line - 1);
            Check.same("title of " + x, county.title(x, 0, 999), isGot ? 2 : 1);
            Check.same("link of " + x, county.link(x, 0, 1), isGot ? 9 : -1);
        }
        Check.land(county, 999, due, "0000|0000", "0000|0000", "0000|0000", "0000|0000", "0000|0000", "0000|0000",
            "0000|0000");
    }

    static void s3_eastWhereTheLineIs0NobodyGetsAnything() {
        growth(0, true, "1|2345123", 0);
    }

    static void s3_eastWhereTheLineIs1() {
        growth(1, true, "11|345123", 1);
    }

    static void s3_eastInTheMiddle() {
        growth(2, true, "122|45123", 1);
        growth(3, true, "1233|5123", 1);
        growth(4, true, "12344|123", 1);
        growth(5, true, "123455|23", 1);
        growth(6, true, "1234511|3", 1);
    }

    static void s3_eastWhereTheLineIs7() {
        growth(7, true, "12345122|", 1);
    }

    static void s3_eastWhereTheLineIs8NothingIsDone() {
        growth(8, true, "12345123|", 0);
    }

    static void s3_westWhereTheLineIs8NobodyGetsAnything() {
        growth(8, false, "1234512|3", 0);
    }

    static void s3_westWhereTheLineIs7() {
        growth(7, false, "123451|33", 1);
    }

    static void s3_westInTheMiddle() {
        growth(6, false, "12345|223", 1);
        growth(5, false, "1234|1123", 1);
        growth(4, false, "123|55123", 1);
        growth(3, false, "12|445123", 1);
        growth(2, false, "1|3345123", 1);
    }

    static void s3_westWhereTheLineIs1() {
        growth(1, false, "|22345123", 1);
    }

    static void s3_westWhereTheLineIs0NothingIsDone() {
        growth(0, false, "|12345123", 0);
    }

    static void s3_eastToTheEdgeAndNoFurther() {
        County county = striped(5);
        String[] due = {"123455|23", "1234555|3", "12345555|", "12345555|", "12345555|"};
        int[] cells = {1, 1, 1, 0, 0};
        for (int k = 0; k < due.length; k++) {
            county.grow(0, true, 40 + k);
            Check.same("growth " + k, county.row(0, 40 + k), due[k]);
            Check.same("cells", county.ofInstrument(9 + k, 2), cells[k]);
        }
        county.grow(0, false, 50);
        Check.same("back from the edge", county.row(0, 50), "1234555|5");
    }

    static void s3_westToTheEdgeAndNoFurther() {
        County county = striped(3);
        String[] due = {"12|445123", "1|4445123", "|44445123", "|44445123", "|44445123"};
        int[] cells = {1, 1, 1, 0, 0};
        for (int k = 0; k < due.length; k++) {
            county.grow(0, false, 40 + k);
            Check.same("growth " + k, county.row(0, 40 + k), due[k]);
            Check.same("cells", county.ofInstrument(9 + k, 2), cells[k]);
        }
        county.grow(0, true, 50);
        Check.same("back from the edge", county.row(0, 50), "4|4445123");
    }

    static void s3_aGrowthOntoLandOfTheSameOwnerMovesTheLineAlone() {
        County county = new County();
        county.grow(5, true, 1);
        county.grow(5, false, 2);
        Check.same("line", county.line(5, 1), 5);
        Check.same("line", county.line(5, 2), 4);
        Check.same("cells", county.ofInstrument(0, 2), 0);
        Check.same("cells", county.ofInstrument(1, 2), 0);
        Check.same("title", county.title(4, 5, 999), 0);
    }

    /** Its line and its owners are those of the day, however late it was told what made them. */
    static void s3_aGrowthTakesTheLineAndTheOwnerOfItsDay() {
        County county = new County();
        county.grow(2, true, 30);
        Check.same("alone", county.row(2, 30), "00000|000");
        county.fence(3, 3, 2, 0);
        Check.same("with a fence", county.row(2, 30), "00033|000");
        county.jump(2, 3, 29);
        Check.same("with a jump ahead", county.row(2, 30), "0000|0000");
        county.jump(2, 6, 31);
        Check.same("a jump behind it", county.row(2, 30), "0000|0000");
        Check.same("cells", county.ofInstrument(0, 2), 1);
    }

    static void p05_theRows0And7() {
        for (int row = 0; row < 8; row += 7) {
            County county = new County();
            Check.same("number", county.grow(row, true, 0), 0);
            for (int y = 0; y < 8; y++) {
                Check.same("line of " + y, county.line(y, 0), y == row ? 5 : 4);
            }
        }
    }

    static void p05_theDays0And999() {
        County county = new County();
        county.grow(1, true, 0);
        county.grow(2, false, 999);
        Check.same("on the day 0", county.line(1, 0), 5);
        Check.same("on the day 998", county.line(2, 998), 4);
        Check.same("on the day 999", county.line(2, 999), 3);
    }

    static void p05_theNumbers() {
        County county = new County();
        for (int k = 0; k < 24; k++) {
            Check.same("number", county.grow(k % 8, k % 3 == 0, 999 - k), k);
        }
    }

    static void s3_aJumpGivesNobodyAnything() {
        County county = striped(4);
        for (int line = 0; line <= 8; line++) {
            Check.same("number", county.jump(0, line, 100 + line), 9 + line);
            StringBuilder due = new StringBuilder("12345123");
            due.insert(line, '|');
            Check.same("row", county.row(0, 100 + line), due.toString());
            Check.same("line", county.line(0, 100 + line), line);
            Check.same("cells", county.ofInstrument(9 + line, 2), 0);
        }
        Check.same("other rows", county.line(1, 999), 4);
        Check.same("title", county.title(3, 0, 999), 1);
    }

    static void s3_aJumpFromOneEdgeToTheOther() {
        County county = striped(0);
        county.jump(0, 8, 31);
        county.jump(0, 0, 32);
        Check.same("at 0", county.row(0, 30), "|12345123");
        Check.same("at 8", county.row(0, 31), "12345123|");
        Check.same("at 0 again", county.row(0, 32), "|12345123");
    }

    static void s3_aJumpToWhereTheLineIs() {
        County county = new County();
        Check.same("number", county.jump(3, 4, 7), 0);
        Check.same("line", county.line(3, 7), 4);
        Check.same("instruments", county.county(0), 1);
    }

    static void p06_theRows0And7() {
        for (int row = 0; row < 8; row += 7) {
            County county = new County();
            county.jump(row, 2, 0);
            for (int y = 0; y < 8; y++) {
                Check.same("line of " + y, county.line(y, 0), y == row ? 2 : 4);
            }
        }
    }

    static void p06_fromThatDayOn() {
        County county = new County();
        county.jump(7, 8, 25);
        county.jump(7, 0, 0);
        county.jump(7, 1, 999);
        int[][] due = {{0, 0}, {24, 0}, {25, 8}, {26, 8}, {998, 8}, {999, 1}};
        for (int[] d : due) {
            Check.same("line on " + d[0], county.line(7, d[0]), d[1]);
        }
    }
}
