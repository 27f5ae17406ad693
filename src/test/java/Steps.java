/** Steps that many tests take. */
final class Steps {
    private Steps() {
    }

    /** Drafts a deed by the steps dx, dy, dx, dy ... */
    static void draft(Cornerdeed county, int grantor, int grantee, int x, int y, int... steps) {
        county.draft(grantor, grantee, x, y);
        for (int k = 0; k + 1 < steps.length; k += 2) {
            county.course(steps[k], steps[k + 1]);
        }
    }

    /** Files a rectangle that is told from its corner in the south west. */
    static int box(Cornerdeed county, int grantor, int grantee, int x, int y, int width, int height, int day) {
        draft(county, grantor, grantee, x, y, width, 0, 0, height, -width, 0, 0, -height);
        return county.file(day);
    }

    /** Makes 24 instruments that change nobody's land. */
    static Cornerdeed full() {
        Cornerdeed county = new Cornerdeed();
        for (int k = 0; k < 24; k++) {
            Check.same("grow " + k, county.grow(k % 8, k % 2 == 0, 500), k);
        }
        return county;
    }
}
