/** Promises 9 to 19. */
final class QuestionTests {
    private QuestionTests() {
    }

    /** One instrument of each kind, in an order of their own. */
    private static Cornerdeed mixed() {
        Cornerdeed county = new Cornerdeed();
        county.jump(1, 2, 60);
        county.fence(4, 1, 1, 20);
        county.grow(1, true, 70);
        Steps.draft(county, 0, 3, 0, 1, 3, 0, 0, 2, -2, 0);
        county.file(45);
        return county;
    }

    static void p09_knockCounts() {
        Cornerdeed county = new Cornerdeed();
        String land = county.row(0, 0);
        for (int k = 1; k <= 5; k++) {
            Check.same("knock", county.knock(), k);
            Check.same("refused", county.county(6), k);
        }
        Check.same("land", county.row(0, 0), land);
        Check.same("instruments", county.county(0), 0);
        Check.same("another county", new Cornerdeed().knock(), 1);
    }

    static void p09_whatIsRefusedByAnExceptionIsNotCounted() {
        Cornerdeed county = new Cornerdeed();
        Check.refused(county, IllegalStateException.class, "file", () -> county.file(0));
        Check.same("refused", county.county(6), 0);
    }

    static void p10_ofInstrument() {
        Cornerdeed county = mixed();
        // The deed is that of 0, 1; 3, 1; 3, 2: the cells 1, 1 (the fence's by then) and 2, 1 (later the river's).
        int[][] due = {{2, 60, 0, 0}, {3, 40, 1, 0}, {1, 70, 1, 0}, {0, 45, 1, 0}};
        for (int number = 0; number < 4; number++) {
            for (int what = 0; what <= 3; what++) {
                Check.same("ofInstrument " + number + " " + what, county.ofInstrument(number, what),
                    due[number][what]);
            }
        }
        county.lift(1, 999);
        Check.same("lifted", county.ofInstrument(1, 3), 1);
        Check.same("cells all the same", county.ofInstrument(1, 2), 1);
    }

    static void p10_ofInstrumentRefuses() {
        Cornerdeed county = mixed();
        for (int number : new int[] {-1, 4, 24, 25, Integer.MAX_VALUE}) {
            for (int what : new int[] {0, -1, 4}) {
                Check.refused(county, IndexOutOfBoundsException.class, "no such",
                    () -> county.ofInstrument(number, what));
            }
        }
        for (int what : new int[] {-1, 4, Integer.MIN_VALUE}) {
            Check.refused(county, IllegalArgumentException.class, "what", () -> county.ofInstrument(0, what));
        }
    }

    static void p11_ofDeed() {
        Cornerdeed county = new Cornerdeed();
        county.fence(5, 2, 2, 10);
        Steps.draft(county, 0, 3, 2, 2, 3, 0, 0, 3, -3, 0, 0, -2);
        int deed = county.file(30);
        // The error 0 and 1 over the lengths 3, 6, 9 of 11 is below 1 everywhere: corners 2, 2; 5, 2; 5, 5; 2, 5.
        int[] due = {0, 3, 4, 18, 0, 1, 9, 1};
        for (int what = 0; what < due.length; what++) {
            Check.same("ofDeed " + what, county.ofDeed(deed, what), due[what]);
        }
        county.grow(2, true, 29);
        county.fence(1, 3, 3, 11);
        Check.same("what comes behind it on its day does not count", county.ofDeed(deed, 7), 1);
        county.fence(1, 3, 3, 9);
        Check.same("what comes ahead of it does", county.ofDeed(deed, 7), 2);
        Check.same("got", county.ofInstrument(deed, 2), 7);
    }

    static void p11_ofDeedRefuses() {
        Cornerdeed county = mixed();
        for (int number : new int[] {-1, 4, Integer.MIN_VALUE}) {
            for (int what : new int[] {0, -1, 8}) {
                Check.refused(county, IndexOutOfBoundsException.class, "no such",
                    () -> county.ofDeed(number, what));
            }
        }
        for (int what : new int[] {-1, 8, Integer.MAX_VALUE}) {
            for (int number = 0; number < 4; number++) {
                int of = number;
                Check.refused(county, IllegalArgumentException.class, "what", () -> county.ofDeed(of, what));
            }
        }
        for (int number = 0; number < 3; number++) {
            int of = number;
            Check.refused(county, IllegalStateException.class, "no deed", () -> county.ofDeed(of, 0));
        }
    }

    static void p12_cornerRefuses() {
        Cornerdeed county = mixed();
        for (int number : new int[] {-1, 4, Integer.MAX_VALUE}) {
            for (int corner : new int[] {0, -1, 3}) {
                Check.refused(county, IndexOutOfBoundsException.class, "no such",
                    () -> county.corner(number, corner, true));
            }
        }
        for (int corner : new int[] {0, -1, 3}) {
            for (int number = 0; number < 3; number++) {
                int of = number;
                Check.refused(county, IllegalStateException.class, "no deed",
                    () -> county.corner(of, corner, false));
            }
        }
        for (int corner : new int[] {-1, 3, 10, Integer.MIN_VALUE, Integer.MAX_VALUE}) {
            Check.refused(county, IllegalArgumentException.class, "no corner",
                () -> county.corner(3, corner, true));
        }
    }

    static void p13_owner() {
        Cornerdeed county = new Cornerdeed();
        Steps.box(county, 0, 4, 5, 1, 2, 3, 300);
        for (int y = 0; y < 8; y++) {
            for (int x = 0; x < 8; x++) {
                boolean isIn = x >= 5 && x < 7 && y >= 1 && y < 4;
                Check.same("owner", county.owner(x, y, 300), isIn ? 4 : 0);
                Check.same("owner", county.owner(x, y, 299), 0);
                Check.same("owner", county.owner(x, y, 999), isIn ? 4 : 0);
            }
        }
    }

    static void p13_p14_p15_refuse() {
        Cornerdeed county = mixed();
        int[][] cells = {{-1, 0}, {8, 0}, {0, -1}, {0, 8}, {Integer.MIN_VALUE, 0}, {0, Integer.MAX_VALUE}};
        for (int[] c : cells) {
            for (int day : new int[] {0, -1, 1000}) {
                Check.refused(county, IndexOutOfBoundsException.class, "owner", () -> county.owner(c[0], c[1], day));
                Check.refused(county, IndexOutOfBoundsException.class, "title", () -> county.title(c[0], c[1], day));
                Check.refused(county, IndexOutOfBoundsException.class, "link", () -> county.link(c[0], c[1], day));
            }
        }
        for (int day : new int[] {-1, 1000, Integer.MIN_VALUE, Integer.MAX_VALUE}) {
            Check.refused(county, IllegalArgumentException.class, "owner", () -> county.owner(7, 7, day));
            Check.refused(county, IllegalArgumentException.class, "title", () -> county.title(7, 7, day));
        }
        for (int nth : new int[] {-1, Integer.MIN_VALUE}) {
            Check.refused(county, IllegalArgumentException.class, "link", () -> county.link(7, 7, nth));
        }
    }

    static void p14_p15_titleAndLinksAreInTheOrderOfTheDays() {
        Cornerdeed county = new Cornerdeed();
        Steps.box(county, 2, 3, 0, 0, 1, 1, 90);
        Steps.box(county, 1, 2, 0, 0, 1, 1, 60);
        Check.same("nobody had it", county.title(0, 0, 999), 0);
        Steps.box(county, 0, 1, 0, 0, 1, 1, 30);
        Steps.box(county, 3, 0, 0, 0, 1, 1, 95);
        int[] days = {29, 30, 59, 60, 89, 90, 94, 95, 999};
        int[] titles = {0, 1, 1, 2, 2, 3, 3, 4, 4};
        for (int k = 0; k < days.length; k++) {
            Check.same("title on " + days[k], county.title(0, 0, days[k]), titles[k]);
        }
        int[] links = {2, 1, 0, 3, -1, -1};
        for (int nth = 0; nth < links.length; nth++) {
            Check.same("link " + nth, county.link(0, 0, nth), links[nth]);
        }
        Check.same("link far", county.link(0, 0, Integer.MAX_VALUE), -1);
        Check.same("beside it", county.link(1, 0, 0), -1);
    }

    static void p15_linkIsOfTheDay999WhateverWasAskedAhead() {
        Cornerdeed county = new Cornerdeed();
        Steps.box(county, 0, 1, 0, 0, 1, 1, 999);
        Check.same("title of an early day", county.title(0, 0, 0), 0);
        Check.same("link", county.link(0, 0, 0), 0);
        county.fence(2, 0, 0, 980);
        Check.same("behind the day 999", county.link(0, 0, 1), -1);
    }

    static void p16_area() {
        Cornerdeed county = new Cornerdeed();
        Steps.box(county, 0, 5, 0, 0, 8, 3, 10);
        Steps.box(county, 5, 1, 7, 0, 1, 8, 11);
        int[][] due = {{64, 0, 0}, {40, 0, 24}, {40, 3, 21}};
        for (int day = 9; day <= 11; day++) {
            Check.same("area 0", county.area(0, day), due[day - 9][0]);
            Check.same("area 1", county.area(1, day), due[day - 9][1]);
            Check.same("area 5", county.area(5, day), due[day - 9][2]);
            Check.same("area 2", county.area(2, day), 0);
        }
    }

    static void p16_areaRefuses() {
        Cornerdeed county = mixed();
        for (int owner : new int[] {-1, 6, Integer.MAX_VALUE}) {
            for (int day : new int[] {0, -1, 1000}) {
                Check.refused(county, IndexOutOfBoundsException.class, "owner", () -> county.area(owner, day));
            }
        }
        for (int day : new int[] {-1, 1000}) {
            Check.refused(county, IllegalArgumentException.class, "day", () -> county.area(5, day));
        }
    }

    static void p17_line() {
        Cornerdeed county = new Cornerdeed();
        county.jump(6, 7, 10);
        county.grow(6, true, 5);
        county.grow(6, false, 12);
        int[][] due = {{4, 4}, {5, 5}, {9, 5}, {10, 7}, {11, 7}, {12, 6}, {999, 6}};
        for (int[] d : due) {
            Check.same("line on " + d[0], county.line(6, d[0]), d[1]);
            Check.same("other row", county.line(5, d[0]), 4);
        }
    }

    static void p17_p18_refuse() {
        Cornerdeed county = mixed();
        for (int row : new int[] {-1, 8, Integer.MIN_VALUE}) {
            for (int day : new int[] {0, -1, 1000}) {
                Check.refused(county, IndexOutOfBoundsException.class, "line", () -> county.line(row, day));
                Check.refused(county, IndexOutOfBoundsException.class, "row", () -> county.row(row, day));
            }
        }
        for (int day : new int[] {-1, 1000}) {
            Check.refused(county, IllegalArgumentException.class, "line", () -> county.line(7, day));
            Check.refused(county, IllegalArgumentException.class, "row", () -> county.row(7, day));
        }
    }

    static void p18_row() {
        Cornerdeed county = new Cornerdeed();
        for (int x = 0; x < 8; x++) {
            county.fence(x % 6, x, 3, 0);
        }
        Check.same("row", county.row(3, 20), "0123|4501");
        Check.same("row ahead", county.row(3, 19), "0000|0000");
        Check.same("other row", county.row(4, 20), "0000|0000");
        for (int line = 0; line <= 8; line++) {
            county.jump(3, line, 100 + line);
            StringBuilder due = new StringBuilder("01234501");
            due.insert(line, '|');
            Check.same("line at " + line, county.row(3, 100 + line), due.toString());
        }
    }

    static void p19_county() {
        Cornerdeed county = mixed();
        county.fence(1, 0, 0, 0);
        county.grow(0, true, 1);
        county.grow(0, false, 1);
        county.jump(0, 0, 2);
        county.jump(0, 0, 3);
        county.jump(0, 0, 4);
        county.draft(0, 1, 2, 2);
        county.knock();
        county.course(1, 1);
        county.course(1, 1);
        int[] due = {10, 1, 3, 4, 2, 2, 1};
        for (int what = 0; what < due.length; what++) {
            Check.same("county " + what, county.county(what), due[what]);
        }
    }

    static void p19_countyRefuses() {
        Cornerdeed county = mixed();
        for (int what : new int[] {-1, 7, Integer.MIN_VALUE, Integer.MAX_VALUE}) {
            Check.refused(county, IllegalArgumentException.class, "county", () -> county.county(what));
        }
    }
}
