/** What the county's state refuses: no draft, too few or too many courses, 24 instruments, the wrong kind. */
final class StateTests {
    private static final Class<IllegalStateException> STATE = IllegalStateException.class;

    private StateTests() {
    }

    /** 23 instruments of all kinds, and a draft of 3 courses. */
    private static County oneLess() {
        County county = new County();
        for (int k = 0; k < 5; k++) {
            county.jump(k, k, 10 * k);
            county.grow(k, true, 10 * k);
            county.fence(k, k, k, 10 * k);
            Steps.box(county, 0, 1 + k, k, k, 1, 1, 10 * k);
        }
        county.jump(7, 7, 7);
        county.jump(7, 6, 8);
        county.jump(7, 5, 9);
        Steps.draft(county, 0, 1, 2, 3, 2, 0, 0, 2, -2, 0);
        return county;
    }

    static void p03_withoutADraftACourseIsRefused() {
        Check.refused(County::new, STATE, "a new county", county -> county.course(1, 1));
        Check.refused(Steps::full, STATE, "behind a filing", county -> county.course(-8, 8));
    }

    static void p03_the10thCourseIsAllowedThe11thIsNot() {
        Check.same("the 1st", Steps.drafted(0).course(1, 1), 1);
        Check.same("the 10th", Steps.drafted(9).course(1, 1), 10);
        Check.refused(() -> Steps.drafted(10), STATE, "the 11th", county -> county.course(1, 1));
    }

    static void p03_aCourseIsAllowedWith24Instruments() {
        Check.same("the 4th", Steps.fullDrafted(3).course(1, 1), 4);
    }

    static void p04_withoutADraftNothingIsFiled() {
        Check.refused(County::new, STATE, "a new county", county -> county.file(0));
        Check.refused(() -> {
            County county = Steps.drafted(4);
            county.file(5);
            return county;
        }, STATE, "behind a filing", county -> county.file(5));
    }

    static void p04_aDraftOf0CoursesIsNotFiled() {
        Check.refused(() -> Steps.drafted(0), STATE, "0 courses", county -> county.file(0));
    }

    static void p04_aDraftOf2CoursesIsNotFiled() {
        Check.refused(() -> Steps.drafted(1), STATE, "1 course", county -> county.file(0));
        Check.refused(() -> Steps.drafted(2), STATE, "2 courses", county -> county.file(999));
    }

    static void p04_aDraftOf3CoursesIsFiled() {
        County county = Steps.drafted(3);
        Check.same("file", county.file(0), 0);
        Check.same("corners", county.ofDeed(0, 2), 3);
    }

    static void p04_aDraftOf10CoursesIsFiled() {
        County county = Steps.drafted(10);
        Check.same("file", county.file(999), 0);
        Check.same("corners", county.ofDeed(0, 2), 10);
    }

    /** That a draft of before had 3 courses is of no use to the next one. */
    static void p04_theCoursesOfAnotherDraftDoNotCount() {
        Check.refused(() -> {
            County county = Steps.drafted(10);
            county.draft(0, 1, 0, 0);
            county.course(1, 0);
            county.course(0, 1);
            return county;
        }, STATE, "2 courses", county -> county.file(0));
    }

    static void p04_the24thMayBeADeedThe25thMayNot() {
        Check.same("the 24th", oneLess().file(0), 23);
        Check.refused(() -> Steps.fullDrafted(3), STATE, "the 25th", county -> county.file(0));
        Check.refused(() -> Steps.fullDrafted(10), STATE, "the 25th", county -> county.file(999));
    }

    static void p05_the24thMayBeAGrowthThe25thMayNot() {
        Check.same("the 24th", oneLess().grow(0, true, 0), 23);
        Check.refused(Steps::full, STATE, "the 25th", county -> county.grow(0, true, 0));
        Check.refused(Steps::full, STATE, "the 25th", county -> county.grow(7, false, 999));
    }

    static void p06_the24thMayBeAJumpThe25thMayNot() {
        Check.same("the 24th", oneLess().jump(0, 0, 0), 23);
        Check.refused(Steps::full, STATE, "the 25th", county -> county.jump(0, 0, 0));
        Check.refused(Steps::full, STATE, "the 25th", county -> county.jump(7, 8, 999));
    }

    static void p07_the24thMayBeAFenceThe25thMayNot() {
        Check.same("the 24th", oneLess().fence(0, 0, 0, 0), 23);
        Check.refused(Steps::full, STATE, "the 25th", county -> county.fence(0, 0, 0, 0));
        Check.refused(Steps::full, STATE, "the 25th", county -> county.fence(5, 7, 7, 999));
    }

    /** A fence that is lifted, or whose day never comes, is one of the 24 all the same. */
    static void p07_aLiftedFenceIsOneOfThe24() {
        Check.Recipe lifted = () -> {
            County county = Steps.fences();
            county.lift(0, 1);
            county.lift(23, 999);
            return county;
        };
        Check.same("fences", lifted.make().county(4), 24);
        Check.refused(lifted, STATE, "the 25th", county -> county.fence(0, 0, 0, 0));
        Check.refused(lifted, STATE, "the 25th", county -> county.jump(0, 0, 0));
    }

    static void p08_onlyAFenceIsLifted() {
        for (int number : new int[] {0, 2, 3}) {
            Check.refused(Steps::busy, STATE, "the kind of " + number, county -> county.lift(number, 999));
        }
        Check.allowed(Steps::busy, "a fence", county -> county.lift(1, 999));
    }

    static void p08_aFenceIsLiftedOnce() {
        Check.refused(Steps::busy, STATE, "lifted ahead of its day", county -> county.lift(4, 36));
        Check.refused(() -> {
            County county = Steps.busy();
            county.lift(1, 999);
            return county;
        }, STATE, "lifted behind its day", county -> county.lift(1, 30));
        Check.refused(() -> {
            County county = Steps.fences();
            county.lift(5, 25);
            return county;
        }, STATE, "lifted on its day", county -> county.lift(5, 25));
    }

    static void p08_theDayIsBehindThatOnWhichItWasSet() {
        Check.refused(Steps::busy, STATE, "a day ahead of it", county -> county.lift(1, 19));
        Check.refused(Steps::busy, STATE, "that day", county -> county.lift(1, 20));
        Check.same("a day behind it", Steps.busy().lift(1, 21), true);
        Check.refused(Steps::busy, STATE, "the first day", county -> county.lift(1, 0));
    }

    static void p08_aFenceOfTheDay999CanNotBeLifted() {
        Check.Recipe last = () -> {
            County county = new County();
            county.fence(3, 0, 0, 998);
            county.fence(3, 0, 0, 999);
            return county;
        };
        Check.same("that of the day 998", last.make().lift(0, 999), true);
        Check.refused(last, STATE, "that of the day 999", county -> county.lift(1, 999));
        Check.refused(last, STATE, "that of the day 998 on its day", county -> county.lift(0, 998));
    }

    static void p08_aLiftIsAllowedWith24Instruments() {
        Check.same("number 0", Steps.fences().lift(0, 1), true);
        Check.same("number 23", Steps.fences().lift(23, 999), false);
    }

    static void p11_onlyADeedHasThose() {
        for (int number : new int[] {0, 1, 2, 4}) {
            for (int what = 0; what <= 7; what++) {
                int of = what;
                Check.refused(Steps::busy, STATE, "the kind of " + number, county -> county.ofDeed(number, of));
            }
        }
    }

    static void p12_onlyADeedHasCorners() {
        for (int number : new int[] {0, 1, 2, 4}) {
            Check.refused(Steps::busy, STATE, "the kind of " + number, county -> county.corner(number, 0, true));
            Check.refused(Steps::busy, STATE, "the kind of " + number, county -> county.corner(number, 2, false));
        }
    }
}
