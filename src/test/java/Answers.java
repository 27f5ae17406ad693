/** The checksum, told from the answers of counties that are made alike, each asked no more often than it may be. */
final class Answers {
    private final Check.Recipe recipe;
    private County asked;
    private long d = 8803;

    private Answers(Check.Recipe recipe) {
        this.recipe = recipe;
        asked = recipe.make();
    }

    static void compare(String what, Check.Recipe recipe) {
        long due = new Answers(recipe).all();
        County county = recipe.make();
        Check.same("digest, " + what, county.digest(), due);
        Check.same("digest once more, " + what, county.digest(), due);
    }

    private County next() {
        if (asked.callsLeft() == 0) {
            asked = recipe.make();
        }
        return asked;
    }

    private void add(int v) {
        d = d * 31 + v;
    }

    private long all() {
        for (int what = 0; what <= 6; what++) {
            add(next().county(what));
        }
        int instruments = next().county(0);
        for (int number = 0; number < instruments; number++) {
            ofInstrument(number);
        }
        ofDay(50);
        ofDay(999);
        add(next().isSound() ? 1 : 0);
        return d;
    }

    private void ofInstrument(int number) {
        for (int what = 0; what <= 3; what++) {
            add(next().ofInstrument(number, what));
        }
        if (next().ofInstrument(number, 0) != 0) {
            return;
        }
        for (int what = 0; what <= 7; what++) {
            add(next().ofDeed(number, what));
        }
        int corners = next().ofDeed(number, 2);
        for (int corner = 0; corner < corners; corner++) {
            add(next().corner(number, corner, true));
            add(next().corner(number, corner, false));
        }
    }

    private void ofDay(int day) {
        for (int row = 0; row < 8; row++) {
            add(next().line(row, day));
            for (int x = 0; x < 8; x++) {
                add(next().owner(x, row, day));
                add(next().title(x, row, day));
            }
        }
        for (int owner = 0; owner <= 5; owner++) {
            add(next().area(owner, day));
            add(next().cut(owner, 4, day));
        }
        add(next().borders(day));
    }
}
