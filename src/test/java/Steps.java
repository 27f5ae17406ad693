/** Steps that many tests take, and the counties that they begin with. */
final class Steps {
    private Steps() {
    }

    /** Drafts a deed by the steps dx, dy, dx, dy ... */
    static void draft(County county, int grantor, int grantee, int x, int y, int... steps) {
        county.draft(grantor, grantee, x, y);
        for (int k = 0; k + 1 < steps.length; k += 2) {
            county.course(steps[k], steps[k + 1]);
        }
    }

    /** Files a rectangle that is told from its corner in the south west. */
    static int box(County county, int grantor, int grantee, int x, int y, int width, int height, int day) {
        draft(county, grantor, grantee, x, y, width, 0, 0, height, -width, 0, 0, -height);
        return county.file(day);
    }

    /** A county with as many courses in its draft; they go around the corner 2, 3 and 4, 5. */
    static County drafted(int courses) {
        County county = new County();
        walk(county, courses);
        return county;
    }

    private static void walk(County county, int courses) {
        int[][] around = {{2, 0}, {0, 2}, {-2, 0}, {0, -2}};
        county.draft(0, 1, 2, 3);
        for (int k = 0; k < courses; k++) {
            county.course(around[k % 4][0], around[k % 4][1]);
        }
    }

    /**
     * Of each kind: 0 a jump, 1 a fence set on the day 20, 2 a growth, 3 a deed with 3 corners, 4 a fence that is
     * lifted. Its draft has 4 courses, and 2 were refused: nothing but its arguments stops a call.
     */
    static County busy() {
        County county = new County();
        county.jump(1, 2, 60);
        county.fence(4, 1, 1, 20);
        county.grow(1, true, 70);
        draft(county, 0, 3, 0, 1, 3, 0, 0, 2, -2, 0);
        county.file(45);
        county.fence(2, 6, 6, 30);
        county.lift(4, 35);
        county.knock();
        county.knock();
        draft(county, 0, 5, 5, 5, 2, 0, 0, 2, -2, 0, 0, -1);
        return county;
    }

    /** 24 instruments of all kinds: 0 a deed, 1 a growth, 2 a jump, 3 a fence, 4 a deed ... and no draft. */
    static County full() {
        County county = new County();
        for (int k = 0; k < 6; k++) {
            box(county, 0, 1 + k % 5, k, k, 2, 2, 10 * k);
            county.grow(k, k % 2 == 0, 100 * k);
            county.jump(7 - k, k, 100 * k + 50);
            county.fence(k, 7 - k, k, 150 * k);
        }
        return county;
    }

    /** The same with as many courses in a draft. */
    static County fullDrafted(int courses) {
        County county = full();
        walk(county, courses);
        return county;
    }

    /** 24 fences, set on the days 0 to 23. */
    static County fences() {
        County county = new County();
        for (int k = 0; k < 24; k++) {
            county.fence(1 + k % 5, k % 8, k / 8, k);
        }
        return county;
    }

    /** 24 deeds with 3 corners each. */
    static County deeds() {
        County county = new County();
        for (int k = 0; k < 24; k++) {
            draft(county, k % 2, 2 + k % 2, k % 6, k / 6, 2, 0, 0, 2, -2, -2);
            county.file(k);
        }
        return county;
    }
}
