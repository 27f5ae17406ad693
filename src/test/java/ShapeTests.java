/** The shape of a deed: errors, corners, areas, and which cells are within. Parts of promises 11 and 12. */
final class ShapeTests {
    private ShapeTests() {
    }

    /** A deed from the owner 0 to the owner 1, filed for the day 0 in a new county. */
    private static County filed(int x, int y, int... steps) {
        County county = new County();
        Steps.draft(county, 0, 1, x, y, steps);
        Check.same("number", county.file(0), 0);
        return county;
    }

    private static void error(County county, int x, int y) {
        Check.same("error x", county.ofDeed(0, 4), x);
        Check.same("error y", county.ofDeed(0, 5), y);
    }

    private static void size(County county, int areaDoubled, int within) {
        Check.same("area doubled", county.ofDeed(0, 3), areaDoubled);
        Check.same("within", county.ofDeed(0, 6), within);
        Check.same("cells of the grantee", county.area(1, 0), within);
    }

    static void s2_anErrorOf0And0IfItCloses() {
        County county = filed(1, 2, 3, 1, -1, 3, -2, -4);
        error(county, 0, 0);
        Check.corners(county, 0, 1, 2, 4, 3, 3, 6);
    }

    static void s2_theErrorIsTheSumOfAllDxAndOfAllDy() {
        error(filed(0, 0, 8, 8, 8, 8, 8, 8, 8, 8, 8, 8, 8, 8, 8, 8, 8, 8, 8, 8, 8, 8), 80, 80);
        error(filed(0, 0, -8, -8, -8, -8, -8, -8, -8, -8, -8, -8, -8, -8, -8, -8, -8, -8, -8, -8, -8, -8), -80, -80);
        error(filed(0, 0, 1, 0, 0, -2, -4, 0), -3, -2);
        error(filed(0, 0, 1, 0, 1, 0, 1, 0), 3, 0);
        error(filed(0, 0, 0, 1, 0, 1, 0, -3), 0, -1);
    }

    /** The errors 1 and -2 over the lengths 6, 14, 18 of 27. */
    static void s2_theErrorIsSharedByLength() {
        County county = filed(2, 2, 6, 0, -3, 5, -3, 1, 1, -8);
        error(county, 1, -2);
        Check.corners(county, 0, 2, 2, 8, 2, 5, 8, 2, 9);
        Check.same("area doubled", county.ofDeed(0, 3), 57);
    }

    /** The errors -7 and 13 over the lengths 5, 6, 10, 18 of 22: -1, -1, -3, -5 and 2, 3, 5, 10. */
    static void s2_bothSignsOfTheErrorGoTowards0() {
        County county = filed(8, 0, -2, 3, 1, 0, -4, 0, -2, 6, 0, 4);
        error(county, -7, 13);
        Check.corners(county, 0, 8, 0, 7, 1, 8, 0, 6, -2, 6, -1);
    }

    /** 12 of 15 of an error of 1: a share that is nearly 1 is 0. */
    static void s2_aShareBelow1Is0() {
        County county = filed(2, 2, 4, 0, 0, 4, -4, 0, 0, -3);
        error(county, 0, 1);
        Check.corners(county, 0, 2, 2, 6, 2, 6, 6, 2, 6);
        County across = filed(2, 2, 0, 4, 4, 0, 0, -4, -3, 0);
        error(across, 1, 0);
        Check.corners(across, 0, 2, 2, 2, 6, 6, 6, 6, 2);
    }

    /** 12 of 17 of an error of -1: it is 0 too, not -1. */
    static void s2_aShareAboveMinus1Is0() {
        County county = filed(2, 2, 4, 0, 0, 4, -4, 0, 0, -5);
        error(county, 0, -1);
        Check.corners(county, 0, 2, 2, 6, 2, 6, 6, 2, 6);
        County across = filed(2, 2, 0, 4, 4, 0, 0, -4, -5, 0);
        error(across, -1, 0);
        Check.corners(across, 0, 2, 2, 2, 6, 6, 6, 6, 2);
    }

    /** 4 * 4 / 16, 4 * 8 / 16, 4 * 12 / 16: the product is divided, not the error or the length alone. */
    static void s2_sharesThatAreWhole() {
        County county = filed(0, 0, 4, 0, 4, 0, -4, 0, 0, 4);
        error(county, 4, 4);
        Check.corners(county, 0, 0, 0, 3, -1, 6, -2, 1, -3);
    }

    /** The lengths are 16, 8 and 4: 4 * 16 / 28 is 2, 4 * 24 / 28 is 3. */
    static void s2_aLengthIsTheSumOfBothAmounts() {
        County county = filed(0, 0, 8, 8, -8, 0, 0, -4);
        error(county, 0, 4);
        Check.corners(county, 0, 0, 0, 8, 6, 0, 5);
    }

    static void s2_amountsHaveNoSign() {
        County county = filed(8, 0, -8, 8, 8, 0, 0, -4);
        error(county, 0, 4);
        Check.corners(county, 0, 8, 0, 0, 6, 8, 5);
    }

    static void s2_corner0IsTheBeginningOne() {
        for (int x = 0; x <= 8; x += 4) {
            for (int y = 0; y <= 8; y += 4) {
                County county = filed(x, y, 7, -3, 2, 8, -1, 5);
                Check.same("x", county.corner(0, 0, true), x);
                Check.same("y", county.corner(0, 0, false), y);
            }
        }
    }

    /** Each of the 10 courses has the same share of 80, which takes away all that was walked. */
    static void s2_theGreatestError() {
        County east = filed(3, 5, 8, 8, 8, 8, 8, 8, 8, 8, 8, 8, 8, 8, 8, 8, 8, 8, 8, 8, 8, 8);
        Check.corners(east, 0, 3, 5, 3, 5, 3, 5, 3, 5, 3, 5, 3, 5, 3, 5, 3, 5, 3, 5, 3, 5);
        size(east, 0, 0);
        County west = filed(3, 5, -8, -8, -8, -8, -8, -8, -8, -8, -8, -8, -8, -8, -8, -8, -8, -8, -8, -8, -8, -8);
        Check.corners(west, 0, 3, 5, 3, 5, 3, 5, 3, 5, 3, 5, 3, 5, 3, 5, 3, 5, 3, 5, 3, 5);
        size(west, 0, 0);
    }

    static void s2_aDeedHasAsManyCornersAsCourses() {
        for (int courses = 3; courses <= 10; courses++) {
            County county = Steps.drafted(courses);
            county.file(0);
            Check.same("corners", county.ofDeed(0, 2), courses);
        }
    }

    static void s2_cornersMayLieFarInTheNorthEast() {
        County county = filed(8, 8, 8, 8, 8, 8, 8, 8, 8, 8, 8, 8, -8, -8, -8, -8, -8, -8, -8, -8, -8, -8);
        Check.corners(county, 0, 8, 8, 16, 16, 24, 24, 32, 32, 40, 40, 48, 48, 40, 40, 32, 32, 24, 24, 16, 16);
        size(county, 0, 0);
    }

    static void s2_cornersMayLieFarInTheSouthWest() {
        County county = filed(0, 0, -8, -8, -8, -8, -8, -8, -8, -8, -8, -8, 8, 8, 8, 8, 8, 8, 8, 8, 8, 8);
        Check.corners(county, 0, 0, 0, -8, -8, -16, -16, -24, -24, -32, -32, -40, -40, -32, -32, -24, -24, -16, -16,
            -8, -8);
        size(county, 0, 0);
    }

    static void s2_aDeedBesideTheCountyHasNoCellInIt() {
        size(filed(8, 0, 8, 0, 0, 8, -8, 0, 0, -8), 128, 0);
        size(filed(0, 0, -8, 0, 0, 8, 8, 0, 0, -8), 128, 0);
        size(filed(0, 8, 8, 0, 0, 8, -8, 0, 0, -8), 128, 0);
        size(filed(0, 0, 8, 0, 0, -8, -8, 0, 0, 8), 128, 0);
    }

    static void s2_theWholeCountyIsWithin() {
        size(filed(0, 0, 8, 0, 0, 8, -8, 0, 0, -8), 128, 64);
    }

    /** A square on its tip around the county. */
    static void s2_theCountyIsWithinADeedAroundIt() {
        County county = filed(0, 0, 4, -4, 8, 8, -8, 8, -8, -8, 4, -4);
        Check.corners(county, 0, 0, 0, 4, -4, 12, 4, 4, 12, -4, 4);
        size(county, 256, 64);
    }

    /** 10 courses: its south west side is that from 0, 8 to 8, 0, and the cells on it are within. */
    static void s2_aGreatDeedOf10Courses() {
        County county = filed(8, 0, 8, 8, 8, 8, 0, 8, -8, 8, -8, 8, -8, -8, -8, -8, 0, -8, 8, -8, 8, -8);
        Check.corners(county, 0, 8, 0, 16, 8, 24, 16, 24, 24, 16, 32, 8, 40, 0, 32, -8, 24, -8, 16, 0, 8);
        size(county, 1536, 36);
        Check.land(county, 0, "0000|0001", "0000|0011", "0000|0111", "0000|1111", "0001|1111", "0011|1111",
            "0111|1111", "1111|1111");
    }

    static void s2_theAreaDoubledMayBeOdd() {
        size(filed(0, 0, 1, 0, -1, 1, 0, -1), 1, 0);
    }

    static void s2_theAreaDoubledIsAnAmount() {
        size(filed(1, 1, 4, 0, 0, 3, -4, 0, 0, -3), 24, 12);
        size(filed(1, 1, 0, 3, 4, 0, 0, -3, -4, 0), 24, 12);
    }

    /** Of the triangle 1, 1; 5, 1; 5, 4 the side back to the corner 0 counts -1. */
    static void s2_theLastCornerIsFollowedByTheCorner0() {
        size(filed(1, 1, 4, 0, 0, 3, -4, -3), 12, 6);
        size(filed(8, 8, -8, 0, 8, -1, 0, 1), 8, 4);
    }

    static void s2_aWalkThereAndBackHasNoArea() {
        size(filed(2, 2, 4, 0, -2, 0, -2, 0), 0, 0);
        size(filed(2, 2, 0, 4, 0, -2, 0, -2), 0, 0);
        size(filed(2, 2, 4, 4, -2, -2, -2, -2), 0, 0);
        size(filed(0, 0, 8, 8, 8, 8, 8, 8), 0, 0);
    }

    /** The cell x, y lies between the corners x, y and x + 1, y + 1. */
    static void s1_aBoxOf1By1HasItsCellAlone() {
        for (int x = 0; x < 8; x++) {
            for (int y = 0; y < 8; y++) {
                County county = filed(x, y, 1, 0, 0, 1, -1, 0, 0, -1);
                size(county, 2, 1);
                Check.same("owner", county.owner(x, y, 0), 1);
            }
        }
    }

    static void s2_aBoxHasAllCellsAlongItsSides() {
        County county = filed(2, 3, 4, 0, 0, 2, -4, 0, 0, -2);
        size(county, 16, 8);
        Check.land(county, 0, "0000|0000", "0000|0000", "0000|0000", "0011|1100", "0011|1100", "0000|0000");
    }

    /** Middles on the west sides are within, those on the east sides are not. */
    static void s2_aSideThroughAMiddleIsNotTrulyEastOfIt() {
        County county = filed(4, 0, 4, 4, -4, 4, -4, -4, 4, -4);
        size(county, 64, 32);
        Check.land(county, 0, "0001|0000", "0011|1000", "0111|1100", "1111|1110", "1111|1110", "0111|1100",
            "0011|1000", "0001|0000");
    }

    /** The same, walked the other way around. */
    static void s2_theWayAroundDoesNotMatter() {
        County county = filed(4, 0, -4, 4, 4, 4, 4, -4, -4, -4);
        size(county, 64, 32);
        Check.land(county, 0, "0001|0000", "0011|1000", "0111|1100", "1111|1110", "1111|1110", "0111|1100",
            "0011|1000", "0001|0000");
    }

    static void s2_theCornerAtWhichItBeginsDoesNotMatter() {
        County county = filed(8, 4, -4, 4, -4, -4, 4, -4, 4, 4);
        size(county, 64, 32);
        Check.land(county, 0, "0001|0000", "0011|1000", "0111|1100", "1111|1110");
    }

    /** Its slanted side is at x = 1/10, 3/10, 5/10, 7/10, 9/10: the last two are truly east of 1/2. */
    static void s2_aSlantedSideIsNotRounded() {
        County county = filed(0, 0, 1, 5, -1, 0, 0, -5);
        size(county, 5, 2);
        for (int y = 0; y < 5; y++) {
            Check.same("owner " + y, county.owner(0, y, 0), y >= 3 ? 1 : 0);
        }
    }

    /** At the middles it is at 8 * (2y + 1) / 14: 1/14 east of that of 0, 0, 1/14 west of that of 7, 6. */
    static void s2_aSideThatIsHardlyEastOrWestOfAMiddle() {
        County county = filed(0, 0, 8, 7, -8, 0, 0, -7);
        size(county, 56, 28);
        Check.land(county, 0, "1000|0000", "1100|0000", "1110|0000", "1111|0000", "1111|1000", "1111|1100",
            "1111|1110", "0000|0000");
    }

    /** The same side as the west one: what was west of it is east now. */
    static void s2_theSameSideFromTheOtherSide() {
        County county = filed(0, 0, 8, 0, 0, 7, -8, -7);
        size(county, 56, 28);
        Check.land(county, 0, "0111|1111", "0011|1111", "0001|1111", "0000|1111", "0000|0111", "0000|0011",
            "0000|0001", "0000|0000");
    }

    static void s2_aSteepSide() {
        County county = filed(0, 0, 7, 8, -7, 0, 0, -8);
        size(county, 56, 28);
        Check.land(county, 0, "0000|0000", "1000|0000", "1100|0000", "1110|0000", "1111|0000", "1111|1000",
            "1111|1100", "1111|1110");
    }

    /** Its sides meet the height of each middle twice east of it, or not at all, but in the notch. */
    static void s2_anEvenNumberOfSidesIsNotWithin() {
        // A box of 6 by 4 with a notch of 2 by 2 in its south side.
        County county = filed(1, 1, 2, 0, 0, 2, 2, 0, 0, -2, 2, 0, 0, 4, -6, 0, 0, -4);
        size(county, 40, 20);
        Check.land(county, 0, "0000|0000", "0110|0110", "0110|0110", "0111|1110", "0111|1110", "0000|0000");
    }

    /** Two triangles that are walked against one another: their areas take each other away. */
    static void s2_aWalkThatCrossesItself() {
        County county = filed(0, 0, 4, 4, 0, -4, -4, 4, 0, -4);
        size(county, 0, 8);
        Check.land(county, 0, "0001|0000", "1011|0000", "1011|0000", "0001|0000", "0000|0000");
    }

    static void s2_whatIsWalkedAroundTwiceIsNotWithin() {
        size(filed(1, 1, 2, 0, 0, 2, -2, 0, 0, -2, 2, 0, 0, 2, -2, 0, 0, -2), 16, 0);
    }

    /** Only the side from 0, 5 to 8, -3 is east of middles, at x = 5 - y. */
    static void s2_sidesOutOfTheCountyCount() {
        County county = filed(0, 0, -8, 3, 8, 2, 8, -8, -8, 3);
        Check.corners(county, 0, 0, 0, -8, 3, 0, 5, 8, -3);
        size(county, 80, 10);
        Check.land(county, 0, "1111|0000", "1110|0000", "1100|0000", "1000|0000", "0000|0000");
    }
}
