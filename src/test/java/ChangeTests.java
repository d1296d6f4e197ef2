import java.util.EnumSet;
import java.util.Set;
import java.util.function.Predicate;
import java.util.function.Supplier;
import java.util.function.ToLongFunction;

/**
 * What each call leaves as it is: on a floor with much on it, everything but what the document says that the call
 * changes is compared with a floor on which it was not made.
 */
public final class ChangeTests {
    private static final Checks checks = new Checks();

    private static final Set<Part> NOTHING = EnumSet.noneOf(Part.class);

    public static void main(String[] args) {
        probesTellApart();
        textCalls();
        acts();
        actsRefused();
        howItTips();
        soThatItIsCarried();
        whatSomebodyDecides();
        whoStandsWhere();
        seenAndHeard();
        lastOnes();
        kept();
        checks.finish();
    }

    /** All that an object holds, each part with what it tells of it; some of it is used up by that. */
    private enum Part {
        PEOPLE {
            @Override
            String told(VotingFloor floor) {
                return "" + floor.count(0);
            }
        },
        WEIGHT {
            @Override
            String told(VotingFloor floor) {
                return ofAll(floor, 0);
            }
        },
        WISH {
            @Override
            String told(VotingFloor floor) {
                return ofAll(floor, 1);
            }
        },
        PLACE {
            @Override
            String told(VotingFloor floor) {
                return ofAll(floor, 2);
            }
        },
        SACK {
            @Override
            String told(VotingFloor floor) {
                return ofAll(floor, 3);
            }
        },
        OFF {
            @Override
            String told(VotingFloor floor) {
                return ofAll(floor, 4);
            }
        },
        MINUTE {
            @Override
            String told(VotingFloor floor) {
                return "" + floor.count(2);
            }
        },
        NOON {
            @Override
            String told(VotingFloor floor) {
                return "" + floor.count(3);
            }
        },
        RULE {
            @Override
            String told(VotingFloor floor) {
                StringBuilder ways = new StringBuilder();
                smooth(floor);
                for (int place = -9; place <= 9 && floor.count(0) > 0; place++) {
                    floor.leads(0, place);
                    ways.append(' ').append(floor.one(0, 5));
                }
                return ways.toString();
            }
        },
        TEXT {
            @Override
            String told(VotingFloor floor) {
                String signs = floor.count(10) + " " + floor.people();
                int last = floor.count(0) - 1;
                // of one who came by it; who was there is another part
                return last < 3 ? signs : signs + " " + floor.one(last, 0) + " " + floor.one(last, 1);
            }
        },
        ROW {
            @Override
            String told(VotingFloor floor) {
                StringBuilder row = new StringBuilder();
                for (int i = 0; i < floor.count(9); i++) {
                    row.append(' ').append(floor.row(i));
                }
                return row.toString();
            }
        },
        SEEN {
            @Override
            String told(VotingFloor floor) {
                smooth(floor);
                Checks.tell(floor, "").rule();
                floor.leads(0, 2);
                return floor.count(6) + " " + floor.cares(0);
            }
        },
        HEARD {
            @Override
            String told(VotingFloor floor) {
                smooth(floor);
                return floor.count(7) + " " + (floor.fits() & 7);
            }
        },
        UNDONE {
            @Override
            String told(VotingFloor floor) {
                StringBuilder past = new StringBuilder();
                for (int left = floor.count(8); left >= 0; left--) {
                    past.append(left).append(" left, ").append(floor.undo()).append(':').append(broughtBack(floor));
                }
                return past.toString();
            }
        },
        KEPT {
            @Override
            String told(VotingFloor floor) {
                StringBuilder shelves = new StringBuilder();
                for (int i = 0; i <= 2; i++) {
                    boolean again = floor.again(i);
                    shelves.append(again).append(again ? broughtBack(floor) : "").append("; ");
                }
                return shelves.toString();
            }
        };

        abstract String told(VotingFloor floor);
    }

    private static String ofAll(VotingFloor floor, int what) {
        StringBuilder all = new StringBuilder();
        for (int i = 0; i < floor.count(0); i++) {
            all.append(' ').append(floor.one(i, what));
        }
        return all.toString();
    }

    private static String broughtBack(VotingFloor floor) {
        StringBuilder all = new StringBuilder();
        for (int what = 1; what <= 4; what++) {
            all.append(ofAll(floor, what)).append(',');
        }
        return all + " " + floor.count(2) + " " + floor.count(3);
    }

    /** PEOPLE are put to the same, whatever they were, so that by them it is told apart what else there is. */
    private static void smooth(VotingFloor floor) {
        floor.sheet(2, 7, 2, 1);
        for (int i = 0; i < floor.count(0); i++) {
            if (floor.one(i, 4) == 1) {
                floor.steps(i);
            }
            floor.turnsTo(i, 3 - i);
            floor.sacks(i, 0);
            floor.leads(i, 5 - 2 * i);
        }
    }

    private static VotingFloor allOff() {
        VotingFloor floor = Edges.busy();
        floor.steps(0);
        floor.steps(1);
        return floor;
    }

    /** So much was done as can be undone, and more. */
    private static VotingFloor longAgo() {
        VotingFloor floor = Edges.busy();
        for (int k = 1; k <= 20; k++) {
            floor.sacks(0, k % 10);
        }
        return floor;
    }

    /** Nothing can be undone, but all else is there. */
    private static VotingFloor forgotten() {
        VotingFloor floor = Edges.busy();
        floor.again(2);
        return floor;
    }

    private static VotingFloor fullText() {
        VotingFloor floor = Edges.busy();
        for (int k = 0; k < 19; k++) {
            floor.sign(0x3B312B31);
        }
        return floor;
    }

    private static VotingFloor walkingBy(String rule) {
        VotingFloor floor = Edges.busy();
        Checks.tell(floor, rule).rule();
        return Checks.tell(floor, "7-2");
    }

    private static VotingFloor telling(String text) {
        return Checks.tell(Edges.busy(), text);
    }

    /** The call is done (answers 0 or more) and changes no other part than these. */
    private static void done(String call, Set<Part> changed, ToLongFunction<VotingFloor> act) {
        done(Edges::busy, call, changed, act);
    }

    private static void done(Supplier<VotingFloor> begun, String call, Set<Part> changed, ToLongFunction<VotingFloor> act) {
        checks.is(call + " is done", Edges.answer(begun.get(), act) >= 0, true);
        leavesAllBut(begun, call, changed, act);
    }

    /** A question may answer -1, too. */
    private static void asked(String call, Set<Part> changed, ToLongFunction<VotingFloor> act) {
        leavesAllBut(Edges::busy, call, changed, act);
    }

    /** The call is refused, or finds nothing (answers below 0), and changes no other part than these. */
    private static void refused(String call, Set<Part> changed, ToLongFunction<VotingFloor> act) {
        refused(Edges::busy, call, changed, act);
    }

    private static void refused(Supplier<VotingFloor> begun, String call, Set<Part> changed,
            ToLongFunction<VotingFloor> act) {
        checks.is(call + " is refused", Edges.answer(begun.get(), act) < 0, true);
        leavesAllBut(begun, call, changed, act);
    }

    private static void leavesAllBut(Supplier<VotingFloor> begun, String call, Set<Part> changed,
            ToLongFunction<VotingFloor> act) {
        for (Part part : EnumSet.complementOf(EnumSet.copyOf(changed))) {
            VotingFloor floor = begun.get();
            Edges.answer(floor, act);
            String got = part.told(floor);
            String due = part.told(begun.get());
            checks.is(call + " leaves " + part + ": " + got + " for " + due, got.equals(due), true);
        }
    }

    private static ToLongFunction<VotingFloor> truth(Predicate<VotingFloor> call) {
        return floor -> call.test(floor) ? 0 : -1;
    }

    /** What is told of a part differs when the part does: else nothing would be found by it. */
    private static void probesTellApart() {
        checks.about("the parts are told apart");
        apart(Part.PEOPLE, VotingFloor::people);
        apart(Part.WEIGHT, floor -> floor.sheet(2, 3, 9, -3));
        apart(Part.WISH, floor -> floor.turnsTo(2, 9));
        apart(Part.PLACE, floor -> floor.leads(2, 9));
        apart(Part.SACK, floor -> floor.sacks(2, 9));
        apart(Part.OFF, floor -> floor.steps(2));
        apart(Part.MINUTE, floor -> floor.minutes(1));
        apart(Part.NOON, floor -> floor.noon(21));
        apart(Part.RULE, floor -> Checks.tell(floor, "").rule());
        apart(Part.TEXT, truth(floor -> floor.end(2)));
        apart(Part.TEXT, floor -> floor.sign(0x3B332B33));
        apart(Part.ROW, VotingFloor::tips);
        apart(Part.SEEN, floor -> floor.seen(0, 0, 3));
        apart(Part.SEEN, VotingFloor::forget);
        apart(Part.HEARD, floor -> floor.heard(1, 1));
        apart(Part.HEARD, VotingFloor::denies);
        apart(Part.UNDONE, floor -> floor.noon(21));
        apart(Part.UNDONE, VotingFloor::undo);
        for (int i = 0; i <= 2; i++) {
            int shelf = i;
            apart(Part.KEPT, truth(floor -> floor.keep(shelf)));
        }
    }

    private static void apart(Part part, ToLongFunction<VotingFloor> act) {
        VotingFloor floor = Edges.busy();
        act.applyAsLong(floor);
        checks.is(part + " is told apart", part.told(floor).equals(part.told(Edges.busy())), false);
    }

    // ---- people

    private static void textCalls() {
        checks.about("promises 2 to 7 change nothing else");
        done("sign()", EnumSet.of(Part.TEXT), floor -> floor.sign(0x3B332B33));
        refused(ChangeTests::fullText, "sign(), full", NOTHING, floor -> floor.sign(0x3B332B33));
        done("end(2)", EnumSet.of(Part.TEXT), truth(floor -> floor.end(2)));
        done("end(3)", NOTHING, truth(floor -> floor.end(3)));
        refused("end(4)", NOTHING, truth(floor -> floor.end(4)));
        refused("end(-1)", NOTHING, truth(floor -> floor.end(-1)));
        Set<Part> came = EnumSet.of(Part.TEXT, Part.PEOPLE, Part.WEIGHT, Part.WISH, Part.PLACE, Part.SACK, Part.OFF,
            Part.UNDONE, Part.KEPT);
        done("people()", came, VotingFloor::people);
        thoseWhoWereThereStay();
        Set<Part> text = EnumSet.of(Part.TEXT);
        done(() -> telling(""), "people() of nothing", NOTHING, VotingFloor::people);
        refused(() -> telling("7-2;"), "people() that can't", text, VotingFloor::people);
        done(() -> telling("1"), "rule()", EnumSet.of(Part.TEXT, Part.RULE), VotingFloor::rule);
        done(() -> telling(""), "rule() of nothing", EnumSet.of(Part.RULE), VotingFloor::rule);
        refused(() -> telling("1+"), "rule() that can't", text, VotingFloor::rule);
        for (int what = 0; what <= 5; what++) {
            int one = what;
            asked("one(0, " + what + ")", NOTHING, floor -> floor.one(0, one));
            asked("one(3, " + what + ") throws", NOTHING, floor -> floor.one(3, one));
        }
        asked("one(0, 6) throws", NOTHING, floor -> floor.one(0, 6));
        for (int kind = 0; kind <= 2; kind++) {
            int one = kind;
            done("sheet(" + kind + ", 3, 9, -3)", EnumSet.of(Part.WEIGHT), floor -> floor.sheet(one, 3, 9, -3));
            refused("sheet(" + kind + ", -1, 9, -3)", NOTHING, floor -> floor.sheet(one, -1, 9, -3));
        }
        refused("sheet(3, ..), missing", EnumSet.of(Part.WEIGHT), floor -> floor.sheet(3, 3, 9, -3));
        refused("sheet(4, ..)", NOTHING, floor -> floor.sheet(4, 3, 9, -3));
        refused("sheet(3, 8, ..)", NOTHING, floor -> floor.sheet(3, 8, 9, -3));
    }

    private static void thoseWhoWereThereStay() {
        VotingFloor floor = Edges.busy();
        floor.people();
        VotingFloor other = Edges.busy();
        for (int what = 0; what <= 5; what++) {
            for (int i = 0; i < 3; i++) {
                checks.is("one(" + i + ", " + what + ") when PEOPLE came", floor.one(i, what), other.one(i, what));
            }
        }
    }

    // ---- minutes, what is done

    private static void acts() {
        checks.about("promises 8 to 15 change nothing else");
        Set<Part> minutes = EnumSet.of(Part.PLACE, Part.MINUTE, Part.ROW, Part.UNDONE);
        done("minutes(1)", minutes, floor -> floor.minutes(1));
        done("minutes(60)", minutes, floor -> floor.minutes(60));
        done("minutes(0)", EnumSet.of(Part.ROW, Part.UNDONE), floor -> floor.minutes(0));
        done("leads(0, 9)", EnumSet.of(Part.PLACE, Part.UNDONE), floor -> floor.leads(0, 9));
        done("leads(2, 9), OFF", EnumSet.of(Part.PLACE, Part.UNDONE), floor -> floor.leads(2, 9));
        done("sacks(0, 9)", EnumSet.of(Part.SACK, Part.UNDONE), floor -> floor.sacks(0, 9));
        done("steps(0)", EnumSet.of(Part.OFF, Part.UNDONE), floor -> floor.steps(0));
        done("steps(2), on again", EnumSet.of(Part.OFF, Part.UNDONE), floor -> floor.steps(2));
        done("turnsTo(0, 9)", EnumSet.of(Part.WISH, Part.UNDONE), floor -> floor.turnsTo(0, 9));
        done("noon(21)", EnumSet.of(Part.NOON, Part.UNDONE), floor -> floor.noon(21));
        Set<Part> told = EnumSet.of(Part.TEXT, Part.ROW, Part.UNDONE);
        done(() -> telling("n0"), "morning() of n0", told, VotingFloor::morning);
        Set<Part> morning = EnumSet.of(Part.TEXT, Part.ROW, Part.UNDONE, Part.SACK);
        done(() -> telling("s05"), "morning() of a sack", morning, VotingFloor::morning);
        done(() -> telling("s05s05"), "morning() till one is refused", morning, VotingFloor::morning);
        Set<Part> unheeded = EnumSet.of(Part.TEXT, Part.ROW);
        done(() -> telling("s00"), "morning() of which none is done", unheeded, VotingFloor::morning);
        done(() -> telling(""), "morning() of nothing", EnumSet.of(Part.ROW), VotingFloor::morning);
        done("undo() of steps()", EnumSet.of(Part.OFF, Part.UNDONE), VotingFloor::undo);
        done(ChangeTests::longAgo, "undo() of sacks()", EnumSet.of(Part.SACK, Part.UNDONE), VotingFloor::undo);
    }

    private static void actsRefused() {
        checks.about("promises 8 to 15, refused, change nothing");
        refused("minutes(61)", NOTHING, floor -> floor.minutes(61));
        refused("leads(0, 10)", NOTHING, floor -> floor.leads(0, 10));
        refused("leads(3, 1)", NOTHING, floor -> floor.leads(3, 1));
        refused("leads(0, 2), he is there", NOTHING, floor -> floor.leads(0, 2));
        refused("sacks(0, 10)", NOTHING, floor -> floor.sacks(0, 10));
        refused("sacks(3, 1)", NOTHING, floor -> floor.sacks(3, 1));
        refused("sacks(1, 6), it is so", NOTHING, floor -> floor.sacks(1, 6));
        refused("steps(3)", NOTHING, floor -> floor.steps(3));
        refused("turnsTo(0, 10)", NOTHING, floor -> floor.turnsTo(0, 10));
        refused("turnsTo(3, 1)", NOTHING, floor -> floor.turnsTo(3, 1));
        refused("turnsTo(0, 3), it is so", NOTHING, floor -> floor.turnsTo(0, 3));
        refused("noon(61)", NOTHING, floor -> floor.noon(61));
        refused("noon(20), it is so", NOTHING, floor -> floor.noon(20));
        refused(() -> telling("n1x"), "morning() that can't", EnumSet.of(Part.TEXT), VotingFloor::morning);
        refused(ChangeTests::forgotten, "undo(), none", NOTHING, VotingFloor::undo);
        refused(ChangeTests::longAgo, "leads(0, 10), fifteen done", NOTHING, floor -> floor.leads(0, 10));
    }

    // ---- questions

    private static final Set<Part> ROW = EnumSet.of(Part.ROW);

    private static void howItTips() {
        checks.about("promises 16 to 22 are questions");
        asked("tips()", ROW, VotingFloor::tips);
        done("later(0, 60)", ROW, floor -> floor.later(0, 60));
        refused("later(0, 61)", NOTHING, floor -> floor.later(0, 61));
        refused("later(3, 1)", NOTHING, floor -> floor.later(3, 1));
        asked("decides()", ROW, VotingFloor::decides);
        done("spares()", ROW, VotingFloor::spares);
        refused(ChangeTests::allOff, "spares(), all OFF", NOTHING, VotingFloor::spares);
        done(() -> walkingBy("9-p"), "swings()", ROW, VotingFloor::swings);
        refused(ChangeTests::allOff, "swings(), all OFF", NOTHING, VotingFloor::swings);
        done("level()", ROW, VotingFloor::level);
        done(ChangeTests::allOff, "level(), all OFF", ROW, VotingFloor::level);
        done(() -> walkingBy("c-p"), "rest()", ROW, VotingFloor::rest);
        refused(() -> walkingBy("(p<2)*2-1"), "rest(), behind none", NOTHING, VotingFloor::rest);
    }

    private static void soThatItIsCarried() {
        checks.about("promises 23 to 28 are questions");
        done("walks(3)", ROW, floor -> floor.walks(3));
        refused("walks(0), by none", NOTHING, floor -> floor.walks(0));
        refused("walks(4), who is OFF", NOTHING, floor -> floor.walks(4));
        done("wall()", ROW, VotingFloor::wall);
        refused(ChangeTests::allOff, "wall(), all OFF", NOTHING, VotingFloor::wall);
        done("bears(0)", ROW, floor -> floor.bears(0));
        refused("bears(2), by none", NOTHING, floor -> floor.bears(2));
        refused("bears(3)", NOTHING, floor -> floor.bears(3));
        done("canvass()", ROW, VotingFloor::canvass);
        refused(ChangeTests::allOff, "canvass(), all OFF", NOTHING, VotingFloor::canvass);
        done("clears()", ROW, VotingFloor::clears);
        done("heads()", ROW, VotingFloor::heads);
    }

    private static void whatSomebodyDecides() {
        checks.about("promises 29 to 31 are questions");
        done("power(0)", ROW, floor -> floor.power(0));
        refused("power(2), OFF", NOTHING, floor -> floor.power(2));
        refused("power(3)", NOTHING, floor -> floor.power(3));
        done("strongest()", ROW, VotingFloor::strongest);
        refused(ChangeTests::allOff, "strongest(), all OFF", NOTHING, VotingFloor::strongest);
        done("just(13)", ROW, floor -> floor.just(13));
        refused("just(99), none", NOTHING, floor -> floor.just(99));
        refused("just(100)", NOTHING, floor -> floor.just(100));
    }

    private static void whoStandsWhere() {
        checks.about("promises 32 to 35 are questions");
        done("farthest()", ROW, VotingFloor::farthest);
        refused(ChangeTests::allOff, "farthest(), all OFF", NOTHING, VotingFloor::farthest);
        done("line()", ROW, VotingFloor::line);
        done("backs()", ROW, VotingFloor::backs);
        done("crowd()", ROW, VotingFloor::crowd);
        done(ChangeTests::allOff, "crowd(), all OFF", ROW, VotingFloor::crowd);
    }

    private static VotingFloor seenOften() {
        VotingFloor floor = Edges.busy();
        for (int k = 0; k < 8; k++) {
            floor.seen(0, 2, 4);
        }
        return floor;
    }

    private static VotingFloor heardOften() {
        VotingFloor floor = Edges.busy();
        for (int k = 0; k < 10; k++) {
            floor.heard(0, 2);
        }
        return floor;
    }

    private static VotingFloor seenWrong() {
        VotingFloor floor = Edges.busy();
        floor.seen(0, 0, 9);
        return floor;
    }

    private static VotingFloor noneFits() {
        VotingFloor floor = Edges.busy();
        floor.heard(0, 18);
        return floor;
    }

    private static void seenAndHeard() {
        checks.about("promises 36 to 43 change nothing else");
        Set<Part> seen = EnumSet.of(Part.SEEN);
        Set<Part> heard = EnumSet.of(Part.HEARD);
        done("seen(1, 3, -2)", seen, floor -> floor.seen(1, 3, -2));
        refused("seen(3, 0, 0)", NOTHING, floor -> floor.seen(3, 0, 0));
        refused("seen(0, 21, 0)", NOTHING, floor -> floor.seen(0, 21, 0));
        refused("seen(0, 0, 10)", NOTHING, floor -> floor.seen(0, 0, 10));
        refused(ChangeTests::seenOften, "seen(), the 11th", NOTHING, floor -> floor.seen(0, 0, 9));
        done("forget()", seen, VotingFloor::forget);
        done("cares(0)", ROW, floor -> floor.cares(0));
        done(ChangeTests::seenWrong, "cares(0), none", ROW, floor -> floor.cares(0));
        refused("cares(3)", NOTHING, floor -> floor.cares(3));
        done(() -> walkingBy("c-p"), "looks(0)", ROW, floor -> floor.looks(0));
        refused(ChangeTests::seenWrong, "looks(0), none is left", NOTHING, floor -> floor.looks(0));
        refused("looks(3)", NOTHING, floor -> floor.looks(3));
        done("heard(1, 0)", heard, floor -> floor.heard(1, 0));
        refused("heard(5, 0)", NOTHING, floor -> floor.heard(5, 0));
        refused("heard(0, 19)", NOTHING, floor -> floor.heard(0, 19));
        refused(ChangeTests::heardOften, "heard(), the 13th", NOTHING, floor -> floor.heard(0, 18));
        done("denies()", heard, VotingFloor::denies);
        done("fits()", ROW, VotingFloor::fits);
        done("asks()", ROW, VotingFloor::asks);
        refused(ChangeTests::noneFits, "asks(), none fits", NOTHING, VotingFloor::asks);
    }

    private static void lastOnes() {
        checks.about("promises 44 to 48 are questions");
        done("faints(3)", ROW, floor -> floor.faints(3));
        refused("faints(11)", NOTHING, floor -> floor.faints(11));
        done("plank(60, 9)", NOTHING, floor -> floor.plank(60, 9));
        refused("plank(61, 9)", NOTHING, floor -> floor.plank(61, 9));
        refused("plank(60, 10)", NOTHING, floor -> floor.plank(60, 10));
        Set<Part> law = EnumSet.of(Part.TEXT, Part.ROW);
        done(() -> telling("1"), "law()", law, VotingFloor::law);
        done(() -> telling(""), "law() of nothing", ROW, VotingFloor::law);
        refused(() -> telling("1+"), "law() that can't", EnumSet.of(Part.TEXT), VotingFloor::law);
        done("crossings(5)", ROW, floor -> floor.crossings(5));
        refused("crossings(21)", NOTHING, floor -> floor.crossings(21));
        done("years(3, 60)", ROW, floor -> floor.years(3, 60));
        refused("years(3, 61)", NOTHING, floor -> floor.years(3, 61));
    }

    private static void kept() {
        checks.about("promises 49 to 52 change nothing else");
        for (int i = 0; i <= 2; i++) {
            int shelf = i;
            done("keep(" + i + ")", EnumSet.of(Part.KEPT), truth(floor -> floor.keep(shelf)));
        }
        refused("keep(3)", NOTHING, truth(floor -> floor.keep(3)));
        Set<Part> brought = EnumSet.of(Part.WISH, Part.PLACE, Part.SACK, Part.OFF, Part.MINUTE, Part.NOON, Part.UNDONE);
        done("again(0)", brought, truth(floor -> floor.again(0)));
        done("again(2)", brought, truth(floor -> floor.again(2)));
        refused("again(1), nothing kept", NOTHING, truth(floor -> floor.again(1)));
        refused("again(3)", NOTHING, truth(floor -> floor.again(3)));
        for (int what = 0; what <= 10; what++) {
            int one = what;
            done("count(" + what + ")", NOTHING, floor -> floor.count(one));
        }
        refused("count(11)", NOTHING, floor -> floor.count(11));
        done("row(0)", NOTHING, floor -> floor.row(0));
        refused("row(4) throws", NOTHING, floor -> floor.row(4));
    }
}
