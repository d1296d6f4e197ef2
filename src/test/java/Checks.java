import java.util.NoSuchElementException;

/** What the tests have in common: texts told by signs, answers compared, wrong ones counted. */
final class Checks {
    private static final int MOST_PRINTED = 40;

    private int wrong = 0;
    private int made = 0;
    private String about = "";

    void about(String what) {
        about = what;
    }

    void is(String call, long got, long due) {
        made++;
        if (got != due) {
            fail(call + " answered " + got + ", due is " + due);
        }
    }

    void is(String call, boolean got, boolean due) {
        is(call, got ? 1 : 0, due ? 1 : 0);
    }

    void fail(String text) {
        wrong++;
        if (wrong <= MOST_PRINTED) {
            System.out.println(about + ": " + text);
        }
    }

    void rowIs(VotingFloor floor, long... due) {
        is("count(9)", floor.count(9), due.length);
        for (int i = 0; i < due.length && i < floor.count(9); i++) {
            is("row(" + i + ")", floor.row(i), due[i]);
        }
        throwsAtRow(floor, due.length);
        throwsAtRow(floor, -1);
    }

    private void throwsAtRow(VotingFloor floor, int i) {
        boolean thrown = false;
        try {
            floor.row(i);
        } catch (NoSuchElementException e) {
            thrown = true;
        }
        is("row(" + i + ") throws", thrown, true);
    }

    void throwsAtOne(VotingFloor floor, int one, int what) {
        boolean thrown = false;
        try {
            floor.one(one, what);
        } catch (NoSuchElementException e) {
            thrown = true;
        }
        is("one(" + one + ", " + what + ") throws", thrown, true);
    }

    /** THE TEXT becomes just this one. */
    static VotingFloor tell(VotingFloor floor, String text) {
        floor.end(0);
        for (int from = 0; from < text.length(); from += 4) {
            int v = 0;
            for (int k = from; k < from + 4; k++) {
                v = v << 8 | (k < text.length() ? text.charAt(k) & 255 : 0);
            }
            floor.sign(v);
        }
        floor.end(text.length());
        return floor;
    }

    static VotingFloor withPeople(String lines) {
        VotingFloor floor = new VotingFloor();
        tell(floor, lines).people();
        return floor;
    }

    /** PEOPLE who stand at once where they are told to. */
    static VotingFloor placed(String lines, int... places) {
        VotingFloor floor = withPeople(lines);
        for (int i = 0; i < places.length; i++) {
            floor.leads(i, places[i]);
        }
        return floor;
    }

    void finish() {
        System.out.println(made + " answers, " + wrong + " wrong");
        if (wrong > 0) {
            System.exit(1);
        }
    }
}
