import java.util.Objects;

/** What a test says of an answer; the first wrong one ends the test. */
final class Check {
    private Check() {
    }

    interface Call {
        Object make();
    }

    /** Makes a county of one kind, the same one each time. */
    interface Recipe {
        County make();
    }

    interface Ask {
        Object of(County county);
    }

    interface AskOne {
        Object of(County county, int value);
    }

    static void same(String what, Object got, Object want) {
        if (!Objects.equals(got, want)) {
            throw new AssertionError(what + " answered " + got + ", due is " + want);
        }
    }

    /** The rows from the south to the north. */
    static void land(County county, int day, String... rows) {
        for (int y = 0; y < rows.length; y++) {
            same("row " + y + " on the day " + day, county.row(y, day), rows[y]);
        }
    }

    /** The corners as x, y, x, y ... */
    static void corners(County county, int deed, int... due) {
        same("corners", county.ofDeed(deed, 2), due.length / 2);
        for (int k = 0; 2 * k + 1 < due.length; k++) {
            same("x of the corner " + k, county.corner(deed, k, true), due[2 * k]);
            same("y of the corner " + k, county.corner(deed, k, false), due[2 * k + 1]);
        }
    }

    /** The call throws just that exception, and the county is then like another one that was not called. */
    static void refused(Recipe recipe, Class<? extends RuntimeException> due, String what, Ask ask) {
        County asked = recipe.make();
        String ahead = Look.brief(asked);
        same(what, answer(asked, ask), due);
        same("digest and county behind " + what, Look.brief(asked), ahead);
        same("all behind " + what, Look.wide(asked), Look.wide(recipe.make()));
    }

    static void allowed(Recipe recipe, String what, Ask ask) {
        Object got = answer(recipe.make(), ask);
        if (got instanceof Class) {
            throw new AssertionError(what + " threw " + got);
        }
    }

    /** The question answers as it must, and nothing is changed by it. */
    static void asked(Recipe recipe, Object due, String what, Ask ask) {
        County asked = recipe.make();
        String ahead = Look.brief(asked);
        same(what, answer(asked, ask), due);
        same("digest and county behind " + what, Look.brief(asked), ahead);
        same("all behind " + what, Look.wide(asked), Look.wide(recipe.make()));
    }

    /** From least to most is allowed; what lies out of that, on both sides, is refused. */
    static void range(Recipe recipe, Class<? extends RuntimeException> due, int least, int most, AskOne ask) {
        allowed(recipe, "the least, " + least, county -> ask.of(county, least));
        allowed(recipe, "the greatest, " + most, county -> ask.of(county, most));
        outside(recipe, due, least, most, ask);
    }

    static void outside(Recipe recipe, Class<? extends RuntimeException> due, int least, int most, AskOne ask) {
        // Numbers whose last bits alone would be allowed are among them.
        int[] wrong = {least - 1, most + 1, least + 256, most - 256, least + 65536, most - 65536,
            Integer.MIN_VALUE, Integer.MIN_VALUE + 1, Integer.MIN_VALUE + most, Integer.MAX_VALUE};
        for (int value : wrong) {
            if (value < least || value > most) {
                refused(recipe, due, "the value " + value, county -> ask.of(county, value));
            }
        }
    }

    private static Object answer(County county, Ask ask) {
        try {
            return ask.of(county);
        } catch (RuntimeException e) {
            return e.getClass();
        }
    }
}
