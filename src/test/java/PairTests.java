/** Two exceptions of a method that apply at once: the one that is named first is thrown, and nothing is changed. */
final class PairTests {
    private static final Class<IllegalArgumentException> ARGUMENT = IllegalArgumentException.class;
    private static final Class<IndexOutOfBoundsException> INDEX = IndexOutOfBoundsException.class;
    private static final Class<IllegalStateException> STATE = IllegalStateException.class;
    private static final int[] NO_DAYS = {-1, 1000, Integer.MIN_VALUE, Integer.MAX_VALUE};
    private static final int[][] NO_STEPS = {{0, 0}, {9, 0}, {-9, 0}, {0, 9}, {0, -9}, {9, 9}};
    private static final int[][] NO_CELLS = {{-1, 3}, {8, 3}, {3, -1}, {3, 8}, {8, 8},
        {Integer.MIN_VALUE, 0}, {0, Integer.MAX_VALUE}};
    /** Of Steps.busy(): neither fence nor deed are among the first two. */
    private static final int[] NO_FENCES = {0, 2, 3};
    private static final int[] NO_DEEDS = {0, 1, 2, 4};
    private static final int[] NO_NUMBERS = {-1, 5, 24, Integer.MIN_VALUE, Integer.MAX_VALUE};

    private PairTests() {
    }

    static void p03_aWrongStepGoesAheadOfNoDraft() {
        for (int[] step : NO_STEPS) {
            Check.refused(County::new, ARGUMENT, "course", county -> county.course(step[0], step[1]));
        }
    }

    static void p03_aWrongStepGoesAheadOf10Courses() {
        for (int[] step : NO_STEPS) {
            Check.refused(() -> Steps.drafted(10), ARGUMENT, "course", county -> county.course(step[0], step[1]));
        }
    }

    static void p04_aWrongDayGoesAheadOfNoDraft() {
        for (int day : NO_DAYS) {
            Check.refused(County::new, ARGUMENT, "file", county -> county.file(day));
        }
    }

    static void p04_aWrongDayGoesAheadOfTooFewCourses() {
        for (int day : NO_DAYS) {
            Check.refused(() -> Steps.drafted(0), ARGUMENT, "file of 0", county -> county.file(day));
            Check.refused(() -> Steps.drafted(2), ARGUMENT, "file of 2", county -> county.file(day));
        }
    }

    static void p04_aWrongDayGoesAheadOf24Instruments() {
        for (int day : NO_DAYS) {
            Check.refused(() -> Steps.fullDrafted(3), ARGUMENT, "file", county -> county.file(day));
            Check.refused(Steps::full, ARGUMENT, "file without a draft", county -> county.file(day));
        }
    }

    static void p05_aWrongRowGoesAheadOf24Instruments() {
        for (int row : new int[] {-1, 8, Integer.MIN_VALUE, Integer.MAX_VALUE}) {
            Check.refused(Steps::full, ARGUMENT, "grow", county -> county.grow(row, true, 5));
        }
    }

    static void p05_aWrongDayGoesAheadOf24Instruments() {
        for (int day : NO_DAYS) {
            Check.refused(Steps::full, ARGUMENT, "grow", county -> county.grow(5, false, day));
        }
    }

    static void p06_aWrongRowGoesAheadOf24Instruments() {
        for (int row : new int[] {-1, 8, Integer.MIN_VALUE, Integer.MAX_VALUE}) {
            Check.refused(Steps::full, ARGUMENT, "jump", county -> county.jump(row, 5, 5));
        }
    }

    static void p06_aWrongLineGoesAheadOf24Instruments() {
        for (int line : new int[] {-1, 9, Integer.MIN_VALUE, Integer.MAX_VALUE}) {
            Check.refused(Steps::full, ARGUMENT, "jump", county -> county.jump(5, line, 5));
        }
    }

    static void p06_aWrongDayGoesAheadOf24Instruments() {
        for (int day : NO_DAYS) {
            Check.refused(Steps::full, ARGUMENT, "jump", county -> county.jump(5, 5, day));
        }
    }

    static void p07_aWrongOwnerGoesAheadOf24Instruments() {
        for (int owner : new int[] {-1, 6, Integer.MIN_VALUE, Integer.MAX_VALUE}) {
            Check.refused(Steps::full, ARGUMENT, "fence", county -> county.fence(owner, 5, 5, 5));
        }
    }

    static void p07_aWrongCellGoesAheadOf24Instruments() {
        for (int[] cell : NO_CELLS) {
            Check.refused(Steps::full, ARGUMENT, "fence", county -> county.fence(5, cell[0], cell[1], 5));
        }
    }

    static void p07_aWrongDayGoesAheadOf24Instruments() {
        for (int day : NO_DAYS) {
            Check.refused(Steps::full, ARGUMENT, "fence", county -> county.fence(5, 5, 5, day));
        }
    }

    static void p08_noInstrumentGoesAheadOfAWrongDay() {
        for (int number : NO_NUMBERS) {
            for (int day : NO_DAYS) {
                Check.refused(Steps::busy, INDEX, "lift", county -> county.lift(number, day));
            }
        }
        Check.refused(County::new, INDEX, "lift in a new county", county -> county.lift(0, -1));
        Check.refused(Steps::full, INDEX, "lift in a full one", county -> county.lift(24, 1000));
    }

    static void p08_aWrongDayGoesAheadOfNoFence() {
        for (int number : NO_FENCES) {
            for (int day : NO_DAYS) {
                Check.refused(Steps::busy, ARGUMENT, "lift", county -> county.lift(number, day));
            }
        }
    }

    static void p08_aWrongDayGoesAheadOfLiftedAlready() {
        for (int day : NO_DAYS) {
            Check.refused(Steps::busy, ARGUMENT, "lift", county -> county.lift(4, day));
        }
    }

    static void p08_aWrongDayGoesAheadOfNotBehindTheSetDay() {
        // -1 is both: no day, and not behind the day 20.
        Check.refused(Steps::busy, ARGUMENT, "lift", county -> county.lift(1, -1));
        Check.refused(Steps::busy, ARGUMENT, "lift", county -> county.lift(1, Integer.MIN_VALUE));
        Check.refused(Steps::fences, ARGUMENT, "lift of the day 0", county -> county.lift(0, -1));
    }

    static void p10_noInstrumentGoesAheadOfAWrongWhat() {
        for (int number : NO_NUMBERS) {
            for (int what : new int[] {-1, 4, Integer.MIN_VALUE, Integer.MAX_VALUE}) {
                Check.refused(Steps::busy, INDEX, "ofInstrument", county -> county.ofInstrument(number, what));
            }
        }
        Check.refused(County::new, INDEX, "in a new county", county -> county.ofInstrument(0, 4));
        Check.refused(Steps::full, INDEX, "in a full one", county -> county.ofInstrument(24, -1));
    }

    static void p11_noInstrumentGoesAheadOfAWrongWhat() {
        for (int number : NO_NUMBERS) {
            for (int what : new int[] {-1, 8, Integer.MIN_VALUE, Integer.MAX_VALUE}) {
                Check.refused(Steps::busy, INDEX, "ofDeed", county -> county.ofDeed(number, what));
            }
        }
        Check.refused(County::new, INDEX, "in a new county", county -> county.ofDeed(0, 8));
        Check.refused(Steps::full, INDEX, "in a full one", county -> county.ofDeed(24, -1));
    }

    static void p11_aWrongWhatGoesAheadOfNoDeed() {
        for (int number : NO_DEEDS) {
            for (int what : new int[] {-1, 8, Integer.MIN_VALUE, Integer.MAX_VALUE}) {
                Check.refused(Steps::busy, ARGUMENT, "ofDeed", county -> county.ofDeed(number, what));
            }
        }
    }

    static void p12_noInstrumentGoesAheadOfNoCorner() {
        for (int number : NO_NUMBERS) {
            for (int corner : new int[] {-1, 3, 10, Integer.MIN_VALUE, Integer.MAX_VALUE}) {
                Check.refused(Steps::busy, INDEX, "corner", county -> county.corner(number, corner, true));
            }
        }
        Check.refused(County::new, INDEX, "in a new county", county -> county.corner(0, -1, true));
        Check.refused(Steps::full, INDEX, "in a full one", county -> county.corner(24, -1, false));
    }

    static void p12_noDeedGoesAheadOfNoCorner() {
        for (int number : NO_DEEDS) {
            for (int corner : new int[] {-1, 3, 10, Integer.MIN_VALUE, Integer.MAX_VALUE}) {
                Check.refused(Steps::busy, STATE, "corner", county -> county.corner(number, corner, false));
            }
        }
    }

    static void p13_noCellGoesAheadOfAWrongDay() {
        for (int[] cell : NO_CELLS) {
            for (int day : NO_DAYS) {
                Check.refused(Steps::busy, INDEX, "owner", county -> county.owner(cell[0], cell[1], day));
            }
        }
    }

    static void p14_noCellGoesAheadOfAWrongDay() {
        for (int[] cell : NO_CELLS) {
            for (int day : NO_DAYS) {
                Check.refused(Steps::busy, INDEX, "title", county -> county.title(cell[0], cell[1], day));
            }
        }
    }

    static void p15_noCellGoesAheadOfAWrongPlace() {
        for (int[] cell : NO_CELLS) {
            for (int nth : new int[] {-1, Integer.MIN_VALUE}) {
                Check.refused(Steps::busy, INDEX, "link", county -> county.link(cell[0], cell[1], nth));
            }
        }
    }

    static void p16_noOwnerGoesAheadOfAWrongDay() {
        for (int owner : new int[] {-1, 6, Integer.MIN_VALUE, Integer.MAX_VALUE}) {
            for (int day : NO_DAYS) {
                Check.refused(Steps::busy, INDEX, "area", county -> county.area(owner, day));
            }
        }
    }

    static void p17_noRowGoesAheadOfAWrongDay() {
        for (int row : new int[] {-1, 8, Integer.MIN_VALUE, Integer.MAX_VALUE}) {
            for (int day : NO_DAYS) {
                Check.refused(Steps::busy, INDEX, "line", county -> county.line(row, day));
            }
        }
    }

    static void p18_noRowGoesAheadOfAWrongDay() {
        for (int row : new int[] {-1, 8, Integer.MIN_VALUE, Integer.MAX_VALUE}) {
            for (int day : NO_DAYS) {
                Check.refused(Steps::busy, INDEX, "row", county -> county.row(row, day));
            }
        }
    }

    static void p21_noOwnerGoesAheadOfAWrongWish() {
        for (int owner : new int[] {-1, 6, Integer.MIN_VALUE, Integer.MAX_VALUE}) {
            for (int wish : new int[] {0, 65, Integer.MIN_VALUE, Integer.MAX_VALUE}) {
                Check.refused(Steps::busy, INDEX, "cut", county -> county.cut(owner, wish, 5));
            }
        }
    }

    static void p21_noOwnerGoesAheadOfAWrongDay() {
        for (int owner : new int[] {-1, 6, Integer.MIN_VALUE, Integer.MAX_VALUE}) {
            for (int day : NO_DAYS) {
                Check.refused(Steps::busy, INDEX, "cut", county -> county.cut(owner, 5, day));
                Check.refused(Steps::busy, INDEX, "cut of 0", county -> county.cut(owner, 0, day));
            }
        }
    }

    /** That file() would refuse it is told by NONE, but a wrong day is refused all the same. */
    static void p22_aWrongDayGoesAheadOfNone() {
        for (int day : NO_DAYS) {
            Check.refused(County::new, ARGUMENT, "no draft", county -> county.wouldFile(day));
            Check.refused(() -> Steps.drafted(0), ARGUMENT, "0 courses", county -> county.wouldFile(day));
            Check.refused(() -> Steps.drafted(2), ARGUMENT, "2 courses", county -> county.wouldFile(day));
            Check.refused(() -> Steps.fullDrafted(3), ARGUMENT, "24", county -> county.wouldFile(day));
            Check.refused(Steps::full, ARGUMENT, "24, no draft", county -> county.wouldFile(day));
        }
    }
}
