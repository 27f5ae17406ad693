/**
 * What an argument may be: the last value that is allowed and the first one that is not, on both sides, also the
 * least and the greatest int. Behind each refused call the county is as it was.
 */
final class RangeTests {
    private static final Class<IllegalArgumentException> ARGUMENT = IllegalArgumentException.class;
    private static final Class<IndexOutOfBoundsException> INDEX = IndexOutOfBoundsException.class;
    private static final Class<IllegalStateException> STATE = IllegalStateException.class;
    private static final int[] ANY = {Integer.MIN_VALUE, -1, 0, 1, 23, 24, Integer.MAX_VALUE};

    private RangeTests() {
    }

    static void p02_theGrantorIs0To5() {
        Check.range(Steps::busy, ARGUMENT, 0, 5, (county, v) -> county.draft(v, 3, 2, 2));
    }

    static void p02_theGranteeIs0To5() {
        Check.range(Steps::busy, ARGUMENT, 0, 5, (county, v) -> county.draft(3, v, 2, 2));
    }

    static void p02_grantorAndGranteeAreNotTheSame() {
        for (int owner = 0; owner <= 5; owner++) {
            int of = owner;
            Check.refused(Steps::busy, ARGUMENT, "from " + of + " to the same", county -> county.draft(of, of, 2, 2));
            Check.allowed(Steps::busy, "from " + of, county -> county.draft(of, (of + 1) % 6, 2, 2));
        }
    }

    static void p02_theSameThatIsNoOwner() {
        Check.outside(Steps::busy, ARGUMENT, 0, 5, (county, v) -> county.draft(v, v, 2, 2));
    }

    static void p02_xOfTheBeginningCornerIs0To8() {
        Check.range(Steps::busy, ARGUMENT, 0, 8, (county, v) -> county.draft(1, 2, v, 3));
    }

    static void p02_yOfTheBeginningCornerIs0To8() {
        Check.range(Steps::busy, ARGUMENT, 0, 8, (county, v) -> county.draft(1, 2, 3, v));
    }

    static void p02_withoutADraftItIsRefusedToo() {
        Check.refused(County::new, ARGUMENT, "grantor", county -> county.draft(6, 0, 0, 0));
        Check.refused(County::new, ARGUMENT, "the same", county -> county.draft(0, 0, 0, 0));
        Check.refused(County::new, ARGUMENT, "corner", county -> county.draft(0, 1, 0, 9));
    }

    static void p03_dxIsFromMinus8To8() {
        Check.range(Steps::busy, ARGUMENT, -8, 8, (county, v) -> county.course(v, 3));
        Check.range(Steps::busy, ARGUMENT, -8, 8, (county, v) -> county.course(v, 0));
    }

    static void p03_dyIsFromMinus8To8() {
        Check.range(Steps::busy, ARGUMENT, -8, 8, (county, v) -> county.course(3, v));
        Check.range(Steps::busy, ARGUMENT, -8, 8, (county, v) -> county.course(0, v));
    }

    static void p03_bothAreNot0() {
        Check.refused(Steps::busy, ARGUMENT, "0, 0", county -> county.course(0, 0));
        for (int one = -1; one <= 1; one += 2) {
            int step = one;
            Check.allowed(Steps::busy, "dx alone", county -> county.course(step, 0));
            Check.allowed(Steps::busy, "dy alone", county -> county.course(0, step));
        }
    }

    static void p03_dxAndDyThatTakeEachOtherAway() {
        for (int one = -8; one <= 8; one += 16) {
            int step = one;
            Check.allowed(Steps::busy, "a sum of 0", county -> county.course(step, -step));
            Check.allowed(Steps::busy, "both alike", county -> county.course(step, step));
        }
        Check.refused(Steps::busy, ARGUMENT, "9, -9", county -> county.course(9, -9));
    }

    static void p04_theDayIs0To999() {
        Check.range(Steps::busy, ARGUMENT, 0, 999, (county, v) -> county.file(v));
    }

    static void p05_theRowIs0To7() {
        Check.range(Steps::busy, ARGUMENT, 0, 7, (county, v) -> county.grow(v, true, 10));
        Check.range(Steps::busy, ARGUMENT, 0, 7, (county, v) -> county.grow(v, false, 10));
    }

    static void p05_theDayIs0To999() {
        Check.range(Steps::busy, ARGUMENT, 0, 999, (county, v) -> county.grow(3, true, v));
        Check.range(Steps::busy, ARGUMENT, 0, 999, (county, v) -> county.grow(3, false, v));
    }

    static void p06_theRowIs0To7() {
        Check.range(Steps::busy, ARGUMENT, 0, 7, (county, v) -> county.jump(v, 3, 10));
    }

    static void p06_theLineIs0To8() {
        Check.range(Steps::busy, ARGUMENT, 0, 8, (county, v) -> county.jump(3, v, 10));
    }

    static void p06_theDayIs0To999() {
        Check.range(Steps::busy, ARGUMENT, 0, 999, (county, v) -> county.jump(3, 3, v));
    }

    static void p07_theOwnerIs0To5() {
        Check.range(Steps::busy, ARGUMENT, 0, 5, (county, v) -> county.fence(v, 3, 3, 10));
    }

    static void p07_xIs0To7() {
        Check.range(Steps::busy, ARGUMENT, 0, 7, (county, v) -> county.fence(3, v, 3, 10));
    }

    static void p07_yIs0To7() {
        Check.range(Steps::busy, ARGUMENT, 0, 7, (county, v) -> county.fence(3, 3, v, 10));
    }

    static void p07_theDayIs0To999() {
        Check.range(Steps::busy, ARGUMENT, 0, 999, (county, v) -> county.fence(3, 3, 3, v));
    }

    static void p08_thereIsSuchAnInstrument() {
        Check.range(Steps::fences, INDEX, 0, 23, (county, v) -> county.lift(v, 999));
        Check.outside(Steps::busy, INDEX, 0, 4, (county, v) -> county.lift(v, 999));
    }

    static void p08_theDayIs0To999() {
        Check.outside(Steps::busy, ARGUMENT, 0, 999, (county, v) -> county.lift(1, v));
        Check.refused(Steps::fences, STATE, "the day 0 is a day", county -> county.lift(0, 0));
        Check.allowed(Steps::fences, "the day 1", county -> county.lift(0, 1));
        Check.allowed(Steps::fences, "the day 999", county -> county.lift(0, 999));
    }

    static void p10_thereIsSuchAnInstrument() {
        Check.range(Steps::full, INDEX, 0, 23, (county, v) -> county.ofInstrument(v, 1));
        Check.range(Steps::busy, INDEX, 0, 4, (county, v) -> county.ofInstrument(v, 1));
    }

    static void p10_whatIs0To3() {
        for (int number = 0; number < 5; number++) {
            int of = number;
            Check.range(Steps::busy, ARGUMENT, 0, 3, (county, v) -> county.ofInstrument(of, v));
        }
    }

    static void p11_thereIsSuchAnInstrument() {
        Check.range(Steps::deeds, INDEX, 0, 23, (county, v) -> county.ofDeed(v, 1));
        Check.outside(Steps::busy, INDEX, 0, 4, (county, v) -> county.ofDeed(v, 1));
    }

    static void p11_whatIs0To7() {
        Check.range(Steps::busy, ARGUMENT, 0, 7, (county, v) -> county.ofDeed(3, v));
    }

    static void p12_thereIsSuchAnInstrument() {
        Check.range(Steps::deeds, INDEX, 0, 23, (county, v) -> county.corner(v, 1, true));
        Check.outside(Steps::busy, INDEX, 0, 4, (county, v) -> county.corner(v, 1, false));
    }

    static void p12_aDeedOf3CoursesHasTheCorners0To2() {
        Check.range(Steps::busy, ARGUMENT, 0, 2, (county, v) -> county.corner(3, v, true));
        Check.range(Steps::busy, ARGUMENT, 0, 2, (county, v) -> county.corner(3, v, false));
    }

    static void p12_aDeedOf10CoursesHasTheCorners0To9() {
        Check.Recipe ten = () -> {
            County county = Steps.drafted(10);
            county.file(0);
            return county;
        };
        Check.range(ten, ARGUMENT, 0, 9, (county, v) -> county.corner(0, v, true));
        Check.range(ten, ARGUMENT, 0, 9, (county, v) -> county.corner(0, v, false));
    }

    static void p08_p10_p11_p12_aNewCountyHasNoInstrument() {
        for (int any : ANY) {
            Check.refused(County::new, INDEX, "lift", county -> county.lift(any, 5));
            Check.refused(County::new, INDEX, "ofInstrument", county -> county.ofInstrument(any, 0));
            Check.refused(County::new, INDEX, "ofDeed", county -> county.ofDeed(any, 0));
            Check.refused(County::new, INDEX, "corner", county -> county.corner(any, 0, true));
        }
    }

    static void p08_p10_p11_p12_aDraftIsNoInstrument() {
        Check.Recipe drafted = () -> Steps.drafted(4);
        Check.refused(drafted, INDEX, "lift", county -> county.lift(0, 5));
        Check.refused(drafted, INDEX, "ofInstrument", county -> county.ofInstrument(0, 0));
        Check.refused(drafted, INDEX, "ofDeed", county -> county.ofDeed(0, 0));
        Check.refused(drafted, INDEX, "corner", county -> county.corner(0, 0, true));
    }

    static void p13_xIs0To7() {
        Check.range(Steps::busy, INDEX, 0, 7, (county, v) -> county.owner(v, 3, 10));
    }

    static void p13_yIs0To7() {
        Check.range(Steps::busy, INDEX, 0, 7, (county, v) -> county.owner(3, v, 10));
    }

    static void p13_theDayIs0To999() {
        Check.range(Steps::busy, ARGUMENT, 0, 999, (county, v) -> county.owner(3, 3, v));
    }

    static void p14_xIs0To7() {
        Check.range(Steps::busy, INDEX, 0, 7, (county, v) -> county.title(v, 3, 10));
    }

    static void p14_yIs0To7() {
        Check.range(Steps::busy, INDEX, 0, 7, (county, v) -> county.title(3, v, 10));
    }

    static void p14_theDayIs0To999() {
        Check.range(Steps::busy, ARGUMENT, 0, 999, (county, v) -> county.title(3, 3, v));
    }

    static void p15_xIs0To7() {
        Check.range(Steps::busy, INDEX, 0, 7, (county, v) -> county.link(v, 3, 0));
    }

    static void p15_yIs0To7() {
        Check.range(Steps::busy, INDEX, 0, 7, (county, v) -> county.link(3, v, 0));
    }

    static void p15_thePlaceIsNotBelow0() {
        Check.range(Steps::busy, ARGUMENT, 0, Integer.MAX_VALUE, (county, v) -> county.link(1, 1, v));
        Check.refused(Steps::busy, ARGUMENT, "-1", county -> county.link(1, 1, -1));
        Check.refused(Steps::busy, ARGUMENT, "the least", county -> county.link(1, 1, Integer.MIN_VALUE));
    }

    static void p16_theOwnerIs0To5() {
        Check.range(Steps::busy, INDEX, 0, 5, (county, v) -> county.area(v, 10));
    }

    static void p16_theDayIs0To999() {
        Check.range(Steps::busy, ARGUMENT, 0, 999, (county, v) -> county.area(3, v));
    }

    static void p17_theRowIs0To7() {
        Check.range(Steps::busy, INDEX, 0, 7, (county, v) -> county.line(v, 10));
    }

    static void p17_theDayIs0To999() {
        Check.range(Steps::busy, ARGUMENT, 0, 999, (county, v) -> county.line(3, v));
    }

    static void p18_theRowIs0To7() {
        Check.range(Steps::busy, INDEX, 0, 7, (county, v) -> county.row(v, 10));
    }

    static void p18_theDayIs0To999() {
        Check.range(Steps::busy, ARGUMENT, 0, 999, (county, v) -> county.row(3, v));
    }

    static void p19_whatIs0To6() {
        Check.range(Steps::busy, ARGUMENT, 0, 6, (county, v) -> county.county(v));
        Check.range(County::new, ARGUMENT, 0, 6, (county, v) -> county.county(v));
    }

    static void p20_theDayIs0To999() {
        Check.range(Steps::busy, ARGUMENT, 0, 999, (county, v) -> county.borders(v));
    }

    static void p21_theOwnerIs0To5() {
        Check.range(Steps::busy, INDEX, 0, 5, (county, v) -> county.cut(v, 4, 10));
    }

    static void p21_theWishIs1To64() {
        Check.range(Steps::busy, ARGUMENT, 1, 64, (county, v) -> county.cut(0, v, 10));
        Check.range(Steps::busy, ARGUMENT, 1, 64, (county, v) -> county.cut(5, v, 10));
    }

    static void p21_theDayIs0To999() {
        Check.range(Steps::busy, ARGUMENT, 0, 999, (county, v) -> county.cut(3, 4, v));
    }

    static void p22_theDayIs0To999() {
        Check.range(Steps::busy, ARGUMENT, 0, 999, (county, v) -> county.wouldFile(v));
    }
}
