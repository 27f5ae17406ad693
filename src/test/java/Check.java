import java.util.Objects;

/** What a test says of an answer; the first wrong one ends the test. */
final class Check {
    private Check() {
    }

    interface Call {
        Object make();
    }

    static void same(String what, Object got, Object want) {
        if (!Objects.equals(got, want)) {
            throw new AssertionError(what + " answered " + got + ", due is " + want);
        }
    }

    /** The call throws just that exception, and the county is behind it as it was ahead of it. */
    static void refused(Cornerdeed county, Class<? extends RuntimeException> due, String what, Call call) {
        String ahead = Look.at(county);
        Object got;
        try {
            got = call.make();
        } catch (RuntimeException e) {
            got = e.getClass();
        }
        same(what, got, due);
        same("the county behind " + what, Look.at(county), ahead);
    }
}
