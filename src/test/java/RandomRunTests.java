/** Long runs of mixed calls, each answer beside that of PlainCounty; the numbers are drawn by a fixed rule. */
final class RandomRunTests {
    private static final int[] WRONG = {-1, Integer.MIN_VALUE, Integer.MAX_VALUE, 1000, 10, 9, 8, 6, -9, 24, 65};
    private static final int[] EDGE_DAYS = {0, 1, 19, 20, 21, 39, 40, 49, 50, 51, 100, 978, 979, 980, 998, 999};
    private static final int EDGES = -1;

    private final County county = new County();
    private final PlainCounty plain = new PlainCounty();
    private long seed;
    private boolean isOfEdges;

    private RandomRunTests(long seed) {
        this.seed = seed;
    }

    static void runsOfAllCalls() {
        for (int run = 0; run < 120; run++) {
            new RandomRunTests(run * 7919L + 17).run(run, 0);
        }
    }

    static void runsOfFewDaysAndManyInstruments() {
        for (int run = 0; run < 120; run++) {
            new RandomRunTests(run * 104729L + 5).run(run, 45);
        }
    }

    static void runsOfEdges() {
        for (int run = 0; run < 120; run++) {
            new RandomRunTests(run * 15485863L + 3).run(run, EDGES);
        }
    }

    private int below(int bound) {
        seed = seed * 6364136223846793005L + 1442695040888963407L;
        return (int) Long.remainderUnsigned(seed >>> 20, bound);
    }

    /** Mostly a number that is allowed, now and then one that is not. */
    private int from(int least, int most) {
        if (isOfEdges && below(3) == 0) {
            int[] edges = {least, most, least, most, least, most, least - 1, most + 1};
            return edges[below(edges.length)];
        }
        return below(60) == 0 ? WRONG[below(WRONG.length)] : least + below(most - least + 1);
    }

    private int day(int span) {
        if (below(40) == 0) {
            return WRONG[below(WRONG.length)];
        }
        if (isOfEdges) {
            return EDGE_DAYS[below(EDGE_DAYS.length)];
        }
        if (span > 0) {
            return below(span);
        }
        return below(4) == 0 ? 975 + below(25) : below(1000);
    }

    private void run(int run, int span) {
        int telling = 4 + below(30);
        isOfEdges = span == EDGES;
        for (int k = 0; k < County.MAX_CALLS - 1; k++) {
            boolean isTelling = below(100) < telling;
            String call = isTelling ? tell(span) : ask(span);
            if (call != null) {
                throw new AssertionError("run " + run + ", call " + k + ": " + call);
            }
        }
        String last = compare("digest", () -> county.digest(), () -> plain.digest());
        Check.same("run " + run + ", last digest", last, null);
    }

    private String tell(int span) {
        int a = from(0, 7);
        int b = from(0, 8);
        int day = day(span);
        boolean isEast = below(2) == 0;
        switch (below(12)) {
            case 0:
                return compare("grow", () -> county.grow(a, isEast, day), () -> plain.grow(a, isEast, day));
            case 1:
                return compare("jump", () -> county.jump(a, b, day), () -> plain.jump(a, b, day));
            case 2:
                int owner = from(0, 5);
                int y = from(0, 7);
                return compare("fence", () -> county.fence(owner, a, y, day), () -> plain.fence(owner, a, y, day));
            case 3:
                int number = from(0, 24);
                return compare("lift", () -> county.lift(number, day), () -> plain.lift(number, day));
            case 4:
            case 5:
                int grantor = below(3) == 0 ? from(0, 5) : 0;
                int grantee = from(0, 5);
                int x = from(0, 8);
                return compare("draft", () -> county.draft(grantor, grantee, x, b),
                    () -> plain.draft(grantor, grantee, x, b));
            case 6:
                return compare("file", () -> county.file(day), () -> plain.file(day));
            default:
                int dx = from(-8, 8);
                int dy = from(-8, 8);
                return compare("course", () -> county.course(dx, dy), () -> plain.course(dx, dy));
        }
    }

    private String ask(int span) {
        int x = from(0, 7);
        int y = from(0, 7);
        int owner = from(0, 5);
        int day = day(span);
        int number = from(-1, plain.events.size());
        switch (below(16)) {
            case 0:
                int what = from(0, 3);
                return compare("ofInstrument", () -> county.ofInstrument(number, what),
                    () -> plain.ofInstrument(number, what));
            case 1:
                int fact = from(0, 7);
                return compare("ofDeed", () -> county.ofDeed(number, fact), () -> plain.ofDeed(number, fact));
            case 2:
                int corner = from(0, 9);
                return compare("corner x", () -> county.corner(number, corner, true),
                    () -> plain.corner(number, corner, true));
            case 3:
                int other = from(-1, 10);
                return compare("corner y", () -> county.corner(number, other, false),
                    () -> plain.corner(number, other, false));
            case 4:
                return compare("owner", () -> county.owner(x, y, day), () -> plain.owner(x, y, day));
            case 5:
                return compare("title", () -> county.title(x, y, day), () -> plain.title(x, y, day));
            case 6:
                int nth = from(0, 4);
                return compare("link", () -> county.link(x, y, nth), () -> plain.link(x, y, nth));
            case 7:
                return compare("area", () -> county.area(owner, day), () -> plain.area(owner, day));
            case 8:
                return compare("line", () -> county.line(y, day), () -> plain.line(y, day));
            case 9:
                return compare("row", () -> county.row(y, day), () -> plain.row(y, day));
            case 10:
                int of = from(0, 6);
                return compare("county", () -> county.county(of), () -> plain.county(of));
            case 11:
                return compare("borders", () -> county.borders(day), () -> plain.borders(day));
            case 12:
                int wish = from(1, below(2) == 0 ? 64 : 9);
                return compare("cut", () -> county.cut(owner, wish, day), () -> plain.cut(owner, wish, day));
            case 13:
                return compare("wouldFile", () -> county.wouldFile(day), () -> plain.wouldFile(day));
            case 14:
                return compare("isSound", () -> county.isSound(), () -> plain.isSound());
            default:
                if (below(4) == 0) {
                    return compare("digest", () -> county.digest(), () -> plain.digest());
                }
                return compare("knock", () -> county.knock(), () -> plain.knock());
        }
    }

    private static String compare(String what, Check.Call got, Check.Call due) {
        String one = answer(got);
        String other = answer(due);
        return one.equals(other) ? null : what + " answered " + one + ", due is " + other;
    }

    private static String answer(Check.Call call) {
        try {
            return String.valueOf(call.make());
        } catch (RuntimeException e) {
            return "throws " + e.getClass().getName();
        }
    }
}
