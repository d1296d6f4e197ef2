import java.util.ArrayList;
import java.util.List;
import java.util.NoSuchElementException;
import java.util.function.Supplier;
import java.util.function.ToLongFunction;

/** What the tests of edges have in common: a floor with much on it, and whether a call changed anything. */
final class Edges {
    static final String SEVEN = "1+1;2+2;3+3;4+4;5+5;6+6;7+7";
    static final int[] WILD = {Integer.MIN_VALUE, Integer.MIN_VALUE + 1, Integer.MAX_VALUE, -1000000, 1000000};

    private static final long THROWN = Long.MIN_VALUE;

    private final Checks checks;

    Edges(Checks checks) {
        this.checks = checks;
    }

    /** Three PEOPLE, of whom the last one is OFF; five acts that can be undone, two floors that are kept. */
    static VotingFloor busy() {
        VotingFloor floor = Checks.withPeople("5+3;2-9;4+1");
        Checks.tell(floor, "c-p+q-m/30").rule();
        floor.keep(0);
        floor.minutes(2);
        floor.keep(2);
        floor.leads(2, -4);
        floor.sacks(1, 6);
        floor.noon(20);
        floor.steps(2);
        floor.seen(0, 0, 2);
        floor.seen(0, 2, 4);
        floor.heard(0, 3);
        floor.heard(4, 0);
        floor.decides();
        // by this one those who are not OFF walk otherwise than by none, so that it is seen if it is lost
        Checks.tell(floor, "p-c+q-m/30").rule();
        return Checks.tell(floor, "7-2");
    }

    static long answer(VotingFloor floor, ToLongFunction<VotingFloor> call) {
        try {
            return call.applyAsLong(floor);
        } catch (NoSuchElementException e) {
            return THROWN;
        }
    }

    /** A call on a new floor with much on it answers this and changes nothing, the ROW neither. */
    void refused(String call, long due, ToLongFunction<VotingFloor> act) {
        refused(Edges::busy, call, due, act);
    }

    void refused(Supplier<VotingFloor> begun, String call, long due, ToLongFunction<VotingFloor> act) {
        VotingFloor floor = begun.get();
        checks.is(call, answer(floor, act), due);
        same(call, probe(floor), probe(begun.get()));
    }

    void thrown(String call, ToLongFunction<VotingFloor> act) {
        refused(call + " throws", THROWN, act);
    }

    /** A call that reads THE TEXT answers this, and changes nothing but that THE TEXT is empty. */
    void refusedText(String text, long due, ToLongFunction<VotingFloor> act) {
        refusedText(Edges::busy, text, due, act);
    }

    void refusedText(Supplier<VotingFloor> begun, String text, long due, ToLongFunction<VotingFloor> act) {
        VotingFloor floor = Checks.tell(begun.get(), text);
        String call = "of the text " + text;
        checks.is(call, answer(floor, act), due);
        VotingFloor other = begun.get();
        other.end(0);
        same(call, probe(floor), probe(other));
    }

    /** A question changes nothing but the ROW. */
    void changesRowAlone(String call, ToLongFunction<VotingFloor> act) {
        VotingFloor floor = busy();
        answer(floor, act);
        floor.tips();
        VotingFloor other = busy();
        other.tips();
        same(call, probe(floor), probe(other));
    }

    /** Two floors answer alike from here on. */
    void alike(String call, VotingFloor floor, VotingFloor other) {
        same(call, probe(floor), probe(other));
    }

    private void same(String call, List<String> got, List<String> due) {
        checks.is(call + ": how much is told behind it", got.size(), due.size());
        for (int k = 0; k < got.size() && k < due.size(); k++) {
            checks.is(call + ", then " + got.get(k) + " for " + due.get(k), got.get(k).equals(due.get(k)), true);
        }
    }

    /** All that a floor can tell of itself; what is done and kept is used up by it. */
    private static List<String> probe(VotingFloor floor) {
        List<String> told = new ArrayList<>();
        for (int what = 0; what <= 10; what++) {
            told.add("count(" + what + ") " + floor.count(what));
        }
        row(told, floor);
        int people = floor.count(0);
        for (int i = 0; i < people; i++) {
            told.add("one(" + i + ", 0) " + floor.one(i, 0));
            told.add("one(" + i + ", 5) " + floor.one(i, 5));
        }
        state(told, floor);
        told.add("years(9, 30) " + floor.years(9, 30));
        row(told, floor);
        told.add("fits() " + floor.fits());
        for (int i = 0; i < people; i++) {
            told.add("cares(" + i + ") " + floor.cares(i));
        }
        int left = floor.count(8);
        for (int k = 0; k < left; k++) {
            told.add("undo() " + floor.undo());
            state(told, floor);
        }
        for (int i = 0; i < 3; i++) {
            told.add("again(" + i + ") " + floor.again(i));
            state(told, floor);
        }
        told.add("people() " + floor.people());
        told.add("one(" + people + ", 1) " + answer(floor, same -> same.one(people, 1)));
        return told;
    }

    private static void row(List<String> told, VotingFloor floor) {
        for (int i = 0; i < floor.count(9); i++) {
            told.add("row(" + i + ") " + floor.row(i));
        }
    }

    private static void state(List<String> told, VotingFloor floor) {
        told.add("who is not OFF " + floor.count(1));
        told.add("MINUTE " + floor.count(2));
        told.add("NOON " + floor.count(3));
        for (int i = 0; i < floor.count(0); i++) {
            told.add("of " + i + ": " + floor.one(i, 1) + " " + floor.one(i, 2) + " " + floor.one(i, 3));
        }
    }
}
