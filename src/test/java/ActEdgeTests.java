import java.util.function.ToLongFunction;

/** The edges that promises 8 to 15, 49 and 50 name, each on a new object. */
public final class ActEdgeTests {
    private static final Checks checks = new Checks();
    private static final Edges edges = new Edges(checks);

    /** Sixty signs that tell thirty acts. */
    private static final String SIXTY = "n1".repeat(30);

    public static void main(String[] args) {
        minutesRefused();
        minutesGoBy();
        leads();
        sacks();
        steps();
        turns();
        noons();
        morningsEmpty();
        morningsDone();
        morningsRefused();
        morningsCantStand();
        morningsTooLong();
        undoNone();
        undoEach();
        undoFifteen();
        undoForgotten();
        undoWhatIsBroughtBack();
        undoSeven();
        keeps();
        keepsBroughtBack();
        checks.finish();
    }

    private static VotingFloor tell(VotingFloor floor, String text) {
        return Checks.tell(floor, text);
    }

    private static VotingFloor withPeople(String lines) {
        return Checks.withPeople(lines);
    }

    private static void is(String call, long got, long due) {
        checks.is(call, got, due);
    }

    private static void is(String call, boolean got, boolean due) {
        checks.is(call, got, due);
    }

    // ---- promise 8

    private static void minutesRefused() {
        checks.about("8: refused: another n");
        edges.refused("minutes(-1)", -1, floor -> floor.minutes(-1));
        edges.refused("minutes(61)", -1, floor -> floor.minutes(61));
        for (int wild : Edges.WILD) {
            edges.refused("minutes(" + wild + ")", -1, floor -> floor.minutes(wild));
        }
    }

    private static void minutesGoBy() {
        checks.about("8: n MINUTES (0 .. 60)");
        VotingFloor none = Checks.placed("5+3", 2);
        is("minutes(0)", none.minutes(0), 2010);
        checks.rowIs(none, 0, 0, 0);
        is("count(2)", none.count(2), 0);
        is("count(8): it is done, too", none.count(8), 2);
        VotingFloor sixty = withPeople("5+3;1-9");
        is("minutes(60)", sixty.minutes(60), 2006);
        checks.rowIs(sixty, 12, 0, 1);
        is("count(2)", sixty.count(2), 60);
        is("minutes(60), once more", sixty.minutes(60), 2006);
        checks.rowIs(sixty, 0, 0, 1);
        is("count(2)", sixty.count(2), 120);
        checks.about("8: nobody");
        VotingFloor nobody = new VotingFloor();
        is("minutes(60)", nobody.minutes(60), 2000);
        checks.rowIs(nobody, 0, 0, 0);
        is("count(2)", nobody.count(2), 60);
        checks.about("8: how many stand on 9, on -9 then (not OFF)");
        VotingFloor walls = Checks.placed("1+9;1+9;1+9;1-9;1-9;1+8;1-8", 9, 9, 9, -9, -9, 8, -8);
        walls.steps(1);
        walls.steps(4);
        is("minutes(0)", walls.minutes(0), 2009);
        checks.rowIs(walls, 0, 2, 1);
        checks.about("8: how many walked in these (each MINUTE by itself, added up)");
        VotingFloor back = withPeople("1+0;1+0");
        tell(back, "1-n*2").rule();
        // to the east in MINUTE 0, then to the west till -9
        is("minutes(2)", back.minutes(2), 2000);
        checks.rowIs(back, 4, 0, 0);
    }

    // ---- promises 9 to 13

    private static void leads() {
        checks.about("9: NONE: others");
        int[][] none = {{-1, 0}, {3, 0}, {0, -10}, {0, 10}, {3, 10}, {-1, -10}, {7, 2}};
        for (int[] one : none) {
            edges.refused("leads(" + one[0] + ", " + one[1] + ")", -1, floor -> floor.leads(one[0], one[1]));
        }
        for (int wild : Edges.WILD) {
            edges.refused("leads(" + wild + ", 1)", -1, floor -> floor.leads(wild, 1));
            edges.refused("leads(0, " + wild + ")", -1, floor -> floor.leads(0, wild));
        }
        edges.refused(VotingFloor::new, "leads(0, 0), nobody", -1, floor -> floor.leads(0, 0));
        checks.about("9: -2: he is there");
        edges.refused("leads(0, 2)", -2, floor -> floor.leads(0, 2));
        edges.refused("leads(2, -4), OFF", -2, floor -> floor.leads(2, -4));
        edges.refused(() -> withPeople("1+1"), "leads(0, 0), at first", -2, floor -> floor.leads(0, 0));
        edges.refused(() -> Checks.placed("1+1", 9), "leads(0, 9)", -2, floor -> floor.leads(0, 9));
        edges.refused(() -> Checks.placed("1+1", -9), "leads(0, -9)", -2, floor -> floor.leads(0, -9));
        checks.about("9: how far that is from where he was");
        is("to the wall", withPeople("1+1").leads(0, 9), 9);
        is("to the other wall", withPeople("1+1").leads(0, -9), 9);
        is("from wall to wall", Checks.placed("1+1", 9).leads(0, -9), 18);
        is("and back", Checks.placed("1+1", -9).leads(0, 9), 18);
        is("by 1", Checks.placed("1+1", -9).leads(0, -8), 1);
        checks.about("9: OFF, too");
        VotingFloor off = withPeople("5+1");
        off.steps(0);
        is("leads(0, 9)", off.leads(0, 9), 9);
        is("count(4)", off.count(4), 2000);
        off.steps(0);
        is("count(4)", off.count(4), 2045);
    }

    private static void sacks() {
        checks.about("10: NONE: others");
        int[][] none = {{-1, 0}, {3, 0}, {0, -1}, {0, 10}, {3, 10}, {-1, -1}};
        for (int[] one : none) {
            edges.refused("sacks(" + one[0] + ", " + one[1] + ")", -1, floor -> floor.sacks(one[0], one[1]));
        }
        for (int wild : Edges.WILD) {
            edges.refused("sacks(" + wild + ", 1)", -1, floor -> floor.sacks(wild, 1));
            edges.refused("sacks(0, " + wild + ")", -1, floor -> floor.sacks(0, wild));
        }
        edges.refused(VotingFloor::new, "sacks(0, 1), nobody", -1, floor -> floor.sacks(0, 1));
        checks.about("10: -2: it is so");
        edges.refused("sacks(0, 0)", -2, floor -> floor.sacks(0, 0));
        edges.refused("sacks(1, 6)", -2, floor -> floor.sacks(1, 6));
        checks.about("10: SACK of one becomes v (0 .. 9): what it was");
        VotingFloor floor = withPeople("5+1");
        is("sacks(0, 9)", floor.sacks(0, 9), 0);
        is("count(5)", floor.count(5), 14);
        is("sacks(0, 0)", floor.sacks(0, 0), 9);
        is("count(5)", floor.count(5), 5);
        VotingFloor off = withPeople("5+1");
        off.steps(0);
        is("sacks(0, 3), OFF", off.sacks(0, 3), 0);
        is("one(0, 3)", off.one(0, 3), 3);
        is("count(5)", off.count(5), 0);
    }

    private static void steps() {
        checks.about("11: NONE: none such");
        edges.refused("steps(-1)", -1, floor -> floor.steps(-1));
        edges.refused("steps(3)", -1, floor -> floor.steps(3));
        edges.refused(VotingFloor::new, "steps(0), nobody", -1, floor -> floor.steps(0));
        edges.refused(() -> withPeople(Edges.SEVEN), "steps(7)", -1, floor -> floor.steps(7));
        for (int wild : Edges.WILD) {
            edges.refused("steps(" + wild + ")", -1, floor -> floor.steps(wild));
        }
        edges.refused("steps(32)", -1, floor -> floor.steps(32));
        checks.about("11: how many are not OFF then");
        VotingFloor floor = withPeople(Edges.SEVEN);
        for (int i = 0; i < 7; i++) {
            is("steps(" + i + ")", floor.steps(i), 6 - i);
        }
        is("count(1), all OFF", floor.count(1), 0);
        is("steps(6), on again", floor.steps(6), 1);
        is("count(1)", floor.count(1), 64);
        checks.about("11: on again (to his PLACE)");
        VotingFloor place = Checks.placed("5+9", -4);
        place.steps(0);
        place.minutes(7);
        is("steps(0)", place.steps(0), 1);
        is("one(0, 2)", place.one(0, 2), -4);
        is("count(4)", place.count(4), 1980);
    }

    private static void turns() {
        checks.about("12: NONE: others");
        int[][] none = {{-1, 0}, {3, 0}, {0, -10}, {0, 10}, {3, 10}, {-1, -10}};
        for (int[] one : none) {
            edges.refused("turnsTo(" + one[0] + ", " + one[1] + ")", -1, floor -> floor.turnsTo(one[0], one[1]));
        }
        for (int wild : Edges.WILD) {
            edges.refused("turnsTo(" + wild + ", 1)", -1, floor -> floor.turnsTo(wild, 1));
            edges.refused("turnsTo(0, " + wild + ")", -1, floor -> floor.turnsTo(0, wild));
        }
        edges.refused(VotingFloor::new, "turnsTo(0, 1), nobody", -1, floor -> floor.turnsTo(0, 1));
        checks.about("12: -2: it is so");
        edges.refused("turnsTo(0, 3)", -2, floor -> floor.turnsTo(0, 3));
        edges.refused("turnsTo(1, -9)", -2, floor -> floor.turnsTo(1, -9));
        edges.refused("turnsTo(2, 1), OFF", -2, floor -> floor.turnsTo(2, 1));
        checks.about("12: WISH of one becomes v (-9 .. 9): 100 and what it was");
        VotingFloor floor = withPeople("5+0");
        is("turnsTo(0, 9)", floor.turnsTo(0, 9), 100);
        is("turnsTo(0, -9)", floor.turnsTo(0, -9), 109);
        is("turnsTo(0, 0)", floor.turnsTo(0, 0), 91);
        is("one(0, 1)", floor.one(0, 1), 0);
        VotingFloor off = withPeople("5+0");
        off.steps(0);
        is("turnsTo(0, 4), OFF", off.turnsTo(0, 4), 100);
        is("one(0, 1)", off.one(0, 1), 4);
    }

    private static void noons() {
        checks.about("13: NONE: another v");
        edges.refused("noon(0)", -1, floor -> floor.noon(0));
        edges.refused("noon(-1)", -1, floor -> floor.noon(-1));
        edges.refused("noon(61)", -1, floor -> floor.noon(61));
        for (int wild : Edges.WILD) {
            edges.refused("noon(" + wild + ")", -1, floor -> floor.noon(wild));
        }
        checks.about("13: -2: it is so");
        edges.refused("noon(20)", -2, floor -> floor.noon(20));
        edges.refused(VotingFloor::new, "noon(12), at first", -2, floor -> floor.noon(12));
        checks.about("13: NOON becomes v (1 .. 60): what it was");
        VotingFloor floor = new VotingFloor();
        is("noon(1)", floor.noon(1), 12);
        is("noon(60)", floor.noon(60), 1);
        is("count(3)", floor.count(3), 60);
        VotingFloor late = withPeople("1+9");
        late.minutes(5);
        is("noon(1), which is over", late.noon(1), 12);
        is("decides()", late.decides(), 1);
        checks.rowIs(late, 2005, 105);
    }

    // ---- promise 14

    private static void morningsEmpty() {
        checks.about("14: an empty one: nothing");
        VotingFloor floor = Checks.placed("5+3", 2);
        floor.line();
        is("morning()", tell(floor, "").morning(), 0);
        checks.rowIs(floor, 0, 2010);
        is("count(2)", floor.count(2), 0);
        is("count(8)", floor.count(8), 1);
        VotingFloor nobody = new VotingFloor();
        is("morning(), nobody", nobody.morning(), 0);
        checks.rowIs(nobody, 0, 2000);
        is("count(8)", nobody.count(8), 0);
        is("undo()", nobody.undo(), -1);
    }

    /** A morning on a new floor does what one call does there. */
    private static void actIs(String text, ToLongFunction<VotingFloor> call) {
        VotingFloor told = Checks.placed("5+3;2-9;4+1", 1, -3, 0);
        is("morning() of " + text, tell(told, text).morning(), 1);
        checks.rowIs(told, 0, told.count(4));
        VotingFloor called = Checks.placed("5+3;2-9;4+1", 1, -3, 0);
        call.applyAsLong(called);
        told.tips();
        called.tips();
        edges.alike(text, told, called);
    }

    private static void morningsDone() {
        checks.about("14: n and a digit");
        actIs("n0", floor -> floor.minutes(0));
        actIs("n1", floor -> floor.minutes(1));
        actIs("n9", floor -> floor.minutes(9));
        checks.about("14: l, a digit, e or w and a digit");
        actIs("l0e9", floor -> floor.leads(0, 9));
        actIs("l0w9", floor -> floor.leads(0, -9));
        actIs("l1e0", floor -> floor.leads(1, 0));
        actIs("l1w0", floor -> floor.leads(1, 0));
        actIs("l2w1", floor -> floor.leads(2, -1));
        checks.about("14: s and two digits");
        actIs("s09", floor -> floor.sacks(0, 9));
        actIs("s21", floor -> floor.sacks(2, 1));
        checks.about("14: o and a digit");
        actIs("o0", floor -> floor.steps(0));
        actIs("o2", floor -> floor.steps(2));
        checks.about("14: t, a digit, + or - and a digit");
        actIs("t0+9", floor -> floor.turnsTo(0, 9));
        actIs("t0-9", floor -> floor.turnsTo(0, -9));
        actIs("t1+0", floor -> floor.turnsTo(1, 0));
        actIs("t1-0", floor -> floor.turnsTo(1, 0));
        checks.about("14: the seventh");
        VotingFloor full = withPeople(Edges.SEVEN);
        is("morning()", tell(full, "l6e9s69t6-9o6o6").morning(), 5);
        checks.rowIs(full, 0, 2000 + 16 * 9);
        checks.about("14: how many were done, sixty signs");
        VotingFloor sixty = withPeople("1+9");
        is("morning()", tell(sixty, SIXTY).morning(), 30);
        checks.rowIs(sixty, 0, 2009);
        is("count(2)", sixty.count(2), 30);
        is("count(8): as one", sixty.count(8), 1);
        is("undo()", sixty.undo(), 0);
        is("count(2)", sixty.count(2), 0);
        VotingFloor twenty = withPeople("1+9");
        is("morning(), twenty sacks", tell(twenty, "s01s02".repeat(10)).morning(), 20);
        VotingFloor fifteen = withPeople("1+9");
        is("morning(), fifteen places", tell(fifteen, "l0e1l0w1".repeat(7) + "l0e1").morning(), 15);
        is("undo()", fifteen.undo(), 0);
        is("one(0, 2)", fifteen.one(0, 2), 0);
    }

    private static void morningsRefused() {
        checks.about("14: till one is refused (it answers NONE or -2)");
        String[] first = {"o3", "o9", "l3e1", "l9w9", "s31", "s91", "t3+1", "t9-1", "l0e1", "l2e0", "l2w0", "s00", "t0+3", "t1-9"};
        for (String text : first) {
            VotingFloor floor = Checks.placed("5+3;2-9;4+1", 1, -3, 0);
            is("morning() of " + text, tell(floor, text + "n1").morning(), 0);
            checks.rowIs(floor, 1, 1999);
            is("count(2)", floor.count(2), 0);
            is("count(8): none was done", floor.count(8), 2);
            is("count(10)", floor.count(10), 0);
            VotingFloor other = Checks.placed("5+3;2-9;4+1", 1, -3, 0);
            floor.tips();
            other.tips();
            edges.alike(text, floor, other);
        }
        VotingFloor second = Checks.placed("5+3;2-9;4+1", 1, -3, 0);
        is("morning()", tell(second, "s04s04n9").morning(), 1);
        checks.rowIs(second, 1, 2003);
        is("count(2)", second.count(2), 0);
        is("count(8): one was done", second.count(8), 3);
        is("undo()", second.undo(), 2);
        is("one(0, 3)", second.one(0, 3), 0);
        VotingFloor last = Checks.placed("5+3;2-9;4+1", 1, -3, 0);
        is("morning(), the last one", tell(last, "n1o0o0o7").morning(), 3);
        checks.rowIs(last, 1, 2000 + 10 - 8 + 4);
        VotingFloor nobody = new VotingFloor();
        is("morning(), nobody", tell(nobody, "n3o0n2").morning(), 1);
        checks.rowIs(nobody, 1, 2000);
        is("count(2)", nobody.count(2), 3);
    }

    private static void morningsCantStand() {
        checks.about("14: the sign at p can't stand there; nothing is done then");
        Object[][] bad = {
            {"x", 0}, {"0", 0}, {"N1", 0}, {" n1", 0}, {"e", 0}, {"+", 0}, {"nx", 1}, {"n+", 1}, {"n:", 1}, {"n/", 1}, {"n10", 2},
            {"n1x", 2}, {"n1 ", 2}, {"n1;n1", 2}, {"lx", 1}, {"le", 1}, {"l00", 2}, {"l0n", 2}, {"l0+1", 2}, {"l0ee", 3},
            {"l0w-", 3}, {"l0e11", 4}, {"sx", 1}, {"s0x", 2}, {"s0-1", 2}, {"s011", 3}, {"ox", 1}, {"o0x", 2}, {"o00", 2},
            {"tx", 1}, {"t00", 2}, {"t0e1", 2}, {"t0++", 3}, {"t0+x", 3}, {"t0+11", 4}, {"n1o0x", 4}, {"s05n1l0x", 7},
            {"t0*1", 2}, {"t0,1", 2}, {"t0 1", 2}, {"t0.1", 2}, {"l0d1", 2}, {"l0f1", 2}, {"l0v1", 2}, {"l0x1", 2}, {"m1", 0},
        };
        for (Object[] one : bad) {
            edges.refusedText((String) one[0], -1 - (Integer) one[1], VotingFloor::morning);
        }
        checks.about("14: its end, if it ends too early");
        String[] early = {"n", "l", "l0", "l0e", "l0w", "s", "s0", "o", "t", "t0", "t0+", "t0-", "n1n", "n1l0", "o0s1", "n1t0-"};
        for (String text : early) {
            edges.refusedText(text, -1 - text.length(), VotingFloor::morning);
        }
    }

    private static void morningsTooLong() {
        checks.about("14: 60, if it has more and the first 60 could go on or end");
        String[] longer = {"n", "n1", "x", "1", "\0", "n1".repeat(10), "x".repeat(20)};
        for (String more : longer) {
            edges.refusedText(SIXTY + more, -61, VotingFloor::morning);
        }
        String fiftyEight = SIXTY.substring(0, 58);
        edges.refusedText(fiftyEight + "s00", -61, VotingFloor::morning);
        edges.refusedText(fiftyEight + "l0e1", -61, VotingFloor::morning);
        edges.refusedText(fiftyEight + "t0x", -61, VotingFloor::morning);
        edges.refusedText("s00" + SIXTY.substring(0, 56) + "n1", -61, VotingFloor::morning);
        checks.about("14: 60 that end too early");
        edges.refusedText(fiftyEight + "s0", -61, VotingFloor::morning);
        edges.refusedText("s01" + SIXTY.substring(0, 57), -61, VotingFloor::morning);
        checks.about("14: the first 60 could not");
        edges.refusedText(fiftyEight + "nx" + "n1", -60, VotingFloor::morning);
        edges.refusedText("x" + "n1".repeat(39), -1, VotingFloor::morning);
        checks.about("14: sixty signs, the last act of four");
        VotingFloor just = withPeople("1+1");
        is("morning()", tell(just, SIXTY.substring(0, 56) + "l0e9").morning(), 29);
        checks.rowIs(just, 0, 2009);
    }

    // ---- promise 15

    private static void undoNone() {
        checks.about("15: refused: none");
        edges.refused(VotingFloor::new, "undo(), new", -1, VotingFloor::undo);
        edges.refused(() -> withPeople("5+3"), "undo(), only PEOPLE", -1, VotingFloor::undo);
        VotingFloor floor = withPeople("5+3");
        floor.minutes(1);
        is("undo()", floor.undo(), 0);
        is("undo()", floor.undo(), -1);
        is("one(0, 2)", floor.one(0, 2), 0);
        checks.about("15: other calls are not undone");
        VotingFloor others = withPeople("5+3");
        tell(others, "1").rule();
        others.sheet(2, 1, 7, 0);
        others.seen(0, 0, 0);
        others.heard(1, 1);
        others.keep(0);
        others.years(1, 9);
        others.later(0, 9);
        tell(others, "").law();
        others.forget();
        others.denies();
        is("undo()", others.undo(), -1);
    }

    private static void undone(String call, ToLongFunction<VotingFloor> act) {
        VotingFloor floor = Edges.busy();
        act.applyAsLong(floor);
        is("count(8) behind " + call, floor.count(8), 6);
        is("undo() of " + call, floor.undo(), 5);
        floor.tips();
        floor.end(0);
        VotingFloor other = Edges.busy();
        other.tips();
        other.end(0);
        edges.alike("undo() of " + call, floor, other);
    }

    private static void undoEach() {
        checks.about("15: the latest minutes(), leads(), .. is undone");
        undone("minutes(0)", floor -> floor.minutes(0));
        undone("minutes(60)", floor -> floor.minutes(60));
        undone("leads()", floor -> floor.leads(0, -9));
        undone("leads(), OFF", floor -> floor.leads(2, 9));
        undone("sacks()", floor -> floor.sacks(0, 9));
        undone("steps(), off", floor -> floor.steps(0));
        undone("steps(), on again", floor -> floor.steps(2));
        undone("turnsTo()", floor -> floor.turnsTo(1, 9));
        undone("noon()", floor -> floor.noon(60));
        undone("morning()", floor -> tell(floor, "n9l0w9s03o1o2t0-9").morning());
        undone("morning() of which one act was done", floor -> tell(floor, "s03s03").morning());
    }

    private static void undoFifteen() {
        checks.about("15: of 15 that are kept, the latest ones");
        for (int acts : new int[] {14, 15, 16, 17, 30, 31, 32, 40}) {
            VotingFloor floor = withPeople("5+3");
            for (int k = 0; k < acts; k++) {
                floor.noon(1 + k % 10);
                is("count(8)", floor.count(8), Math.min(15, k + 1));
            }
            int kept = Math.min(15, acts);
            for (int k = 1; k <= kept; k++) {
                is("undo()", floor.undo(), kept - k);
                int due = acts - k == 0 ? 12 : 1 + (acts - k - 1) % 10;
                is("count(3), " + k + " of " + acts + " undone", floor.count(3), due);
            }
            is("undo()", floor.undo(), -1);
        }
        checks.about("15: such as were done: what is refused takes the place of none");
        for (int acts : new int[] {15, 16, 20, 31}) {
            int done = acts;
            edges.refused(() -> often(done), "leads(0, 0)", -2, floor -> floor.leads(0, 0));
            edges.refused(() -> often(done), "leads(1, 0)", -1, floor -> floor.leads(1, 0));
            edges.refused(() -> often(done), "sacks(0, 10)", -1, floor -> floor.sacks(0, 10));
            edges.refused(() -> often(done), "steps(1)", -1, floor -> floor.steps(1));
            edges.refused(() -> often(done), "turnsTo(0, 3)", -2, floor -> floor.turnsTo(0, 3));
            edges.refused(() -> often(done), "noon(12)", -2, floor -> floor.noon(12));
            edges.refused(() -> often(done), "minutes(61)", -1, floor -> floor.minutes(61));
            edges.refusedText(() -> often(done), "n1x", -3, VotingFloor::morning);
            VotingFloor none = often(done);
            tell(none, "l0e0").morning();
            none.tips();
            VotingFloor other = often(done);
            other.tips();
            edges.alike("morning() of which none was done", none, other);
        }
        checks.about("15: undone, then others done");
        VotingFloor floor = withPeople("5+3");
        for (int v = 1; v <= 9; v++) {
            floor.sacks(0, v);
        }
        floor.undo();
        floor.undo();
        is("one(0, 3)", floor.one(0, 3), 7);
        floor.sacks(0, 0);
        is("undo()", floor.undo(), 7);
        is("one(0, 3)", floor.one(0, 3), 7);
        is("undo()", floor.undo(), 6);
        is("one(0, 3)", floor.one(0, 3), 6);
    }

    /** So many sacks, one behind another. */
    private static VotingFloor often(int acts) {
        VotingFloor floor = withPeople("5+3");
        for (int k = 1; k <= acts; k++) {
            floor.sacks(0, k % 10);
        }
        return floor;
    }

    private static void undoForgotten() {
        checks.about("15: people() forgets them, if it is not refused; an empty one does not");
        VotingFloor came = Edges.busy();
        is("people()", came.people(), 1);
        is("count(8)", came.count(8), 0);
        is("undo()", came.undo(), -1);
        is("one(2, 2): it stays as it is", came.one(2, 2), -4);
        VotingFloor refused = Edges.busy();
        tell(refused, "1+").people();
        is("count(8), refused", refused.count(8), 5);
        is("undo()", refused.undo(), 4);
        VotingFloor empty = Edges.busy();
        tell(empty, "").people();
        is("count(8), an empty one", empty.count(8), 5);
        is("undo()", empty.undo(), 4);
        checks.about("15: again() forgets them, if it is not refused");
        VotingFloor again = Edges.busy();
        is("again(2)", again.again(2), true);
        is("count(8)", again.count(8), 0);
        is("undo()", again.undo(), -1);
        VotingFloor nothing = Edges.busy();
        is("again(1)", nothing.again(1), false);
        is("count(8), refused", nothing.count(8), 5);
        is("undo()", nothing.undo(), 4);
        checks.about("15: behind what is forgotten");
        VotingFloor behind = Edges.busy();
        behind.again(0);
        behind.noon(3);
        is("undo()", behind.undo(), 0);
        is("count(3)", behind.count(3), 12);
        is("undo()", behind.undo(), -1);
    }

    private static void undoWhatIsBroughtBack() {
        checks.about("15: all of PEOPLE but WEIGHT, MINUTE, NOON are as ahead of it");
        VotingFloor floor = withPeople("5+3;2-9");
        floor.sacks(0, 4);
        tell(floor, "1").rule();
        floor.sheet(2, 2, 8, 0);
        floor.seen(0, 0, 0);
        floor.heard(1, 1);
        floor.tips();
        tell(floor, "abc");
        is("undo()", floor.undo(), 0);
        is("one(0, 3)", floor.one(0, 3), 0);
        is("one(0, 0): not WEIGHT", floor.one(0, 0), 8);
        is("one(1, 5): not THE RULE", floor.one(1, 5), 1);
        is("count(6): not what was seen", floor.count(6), 1);
        is("count(7): not what was heard", floor.count(7), 1);
        is("count(10): not THE TEXT", floor.count(10), 3);
        checks.rowIs(floor, 0, 0, 20);
    }

    /** Seven, of whom each has his own WISH, PLACE and SACK, and some are OFF. */
    private static VotingFloor sevenApart() {
        VotingFloor floor = withPeople(Edges.SEVEN);
        for (int i = 0; i < 7; i++) {
            floor.leads(i, 3 - 2 * i);
            floor.sacks(i, 9 - i);
            floor.turnsTo(i, i - 8);
        }
        floor.steps(1);
        floor.steps(6);
        floor.noon(33);
        return floor;
    }

    private static void sevenAreApart(VotingFloor floor) {
        for (int i = 0; i < 7; i++) {
            is("one(" + i + ", 0)", floor.one(i, 0), i + 1);
            is("one(" + i + ", 1)", floor.one(i, 1), i - 8);
            is("one(" + i + ", 2)", floor.one(i, 2), 3 - 2 * i);
            is("one(" + i + ", 3)", floor.one(i, 3), 9 - i);
            is("one(" + i + ", 4)", floor.one(i, 4), i == 1 || i == 6 ? 1 : 0);
        }
        is("count(2)", floor.count(2), 0);
        is("count(3)", floor.count(3), 33);
    }

    private static void undoSeven() {
        checks.about("15: all of PEOPLE, seven");
        VotingFloor undone = sevenApart();
        undone.minutes(60);
        for (int i = 0; i < 7; i++) {
            undone.steps(i);
            undone.sacks(i, 1);
        }
        for (int left = 14; left >= 0; left--) {
            is("undo()", undone.undo(), left);
        }
        sevenAreApart(undone);
        checks.about("50: it is as it was kept, seven");
        VotingFloor kept = sevenApart();
        for (int i = 0; i <= 2; i++) {
            kept.keep(i);
        }
        for (int k = 0; k <= 2; k++) {
            kept.noon(60);
            tell(kept, "n9o0o1o2o3o4o5o6s01s11s21s31s41s51s61t0+9t6+9l6e9l0w9").morning();
            is("again(" + k + ")", kept.again(k), true);
            sevenAreApart(kept);
        }
    }

    // ---- promises 49 and 50

    private static void keeps() {
        checks.about("49: kept under a number 0 .. 2");
        for (int i = 0; i <= 2; i++) {
            VotingFloor floor = withPeople("5+3");
            is("keep(" + i + ")", floor.keep(i), true);
            floor.minutes(3);
            for (int other = 0; other <= 2; other++) {
                is("again(" + other + ")", floor.again(other), other == i);
            }
            is("count(2)", floor.count(2), 0);
        }
        checks.about("49: refused: others");
        edges.refused("keep(-1)", 0, floor -> floor.keep(-1) ? 1 : 0);
        edges.refused("keep(3)", 0, floor -> floor.keep(3) ? 1 : 0);
        checks.about("50: refused: nothing kept");
        edges.refused("again(1)", 0, floor -> floor.again(1) ? 1 : 0);
        edges.refused("again(-1)", 0, floor -> floor.again(-1) ? 1 : 0);
        edges.refused("again(3)", 0, floor -> floor.again(3) ? 1 : 0);
        edges.refused(VotingFloor::new, "again(0), new", 0, floor -> floor.again(0) ? 1 : 0);
        for (int wild : Edges.WILD) {
            edges.refused("keep(" + wild + ")", 0, floor -> floor.keep(wild) ? 1 : 0);
            edges.refused("again(" + wild + ")", 0, floor -> floor.again(wild) ? 1 : 0);
        }
        checks.about("50: refused: PEOPLE came since");
        VotingFloor came = Edges.busy();
        came.people();
        for (int i = 0; i <= 2; i++) {
            is("again(" + i + ")", came.again(i), false);
        }
        is("count(2)", came.count(2), 2);
        is("keep(1)", came.keep(1), true);
        came.minutes(2);
        is("again(1), kept since", came.again(1), true);
        is("count(2)", came.count(2), 2);
        is("again(0)", came.again(0), false);
        VotingFloor nobody = new VotingFloor();
        nobody.keep(0);
        nobody.minutes(3);
        is("again(0), nobody", nobody.again(0), true);
        is("count(2)", nobody.count(2), 0);
        tell(nobody, "1+1").people();
        is("again(0), the first ones came", nobody.again(0), false);
        checks.about("50: PEOPLE did not come");
        VotingFloor stayed = Edges.busy();
        tell(stayed, "").people();
        is("again(0), an empty one", stayed.again(0), true);
        tell(stayed, "1+1;").people();
        is("again(2), one that was refused", stayed.again(2), true);
    }

    private static void keepsBroughtBack() {
        checks.about("50: it is as it was kept");
        VotingFloor floor = withPeople("5+3;2-9");
        floor.keep(1);
        floor.minutes(2);
        floor.noon(44);
        floor.steps(1);
        floor.turnsTo(0, -3);
        floor.sacks(0, 8);
        floor.leads(1, 9);
        floor.sheet(2, 2, 9, 0);
        is("again(1)", floor.again(1), true);
        int[][] due = {{9, 3, 0, 0, 0}, {9, -9, 0, 0, 0}};
        for (int i = 0; i < due.length; i++) {
            for (int what = 0; what < due[i].length; what++) {
                is("one(" + i + ", " + what + ")", floor.one(i, what), due[i][what]);
            }
        }
        is("count(2)", floor.count(2), 0);
        is("count(3)", floor.count(3), 12);
        checks.about("50: once more, and kept anew");
        floor.minutes(1);
        is("again(1)", floor.again(1), true);
        is("count(2)", floor.count(2), 0);
        floor.minutes(5);
        is("keep(1)", floor.keep(1), true);
        floor.minutes(5);
        is("again(1)", floor.again(1), true);
        is("count(2)", floor.count(2), 5);
        checks.about("49: what can be undone stays so");
        VotingFloor kept = withPeople("5+3");
        kept.minutes(1);
        kept.keep(0);
        is("count(8)", kept.count(8), 1);
        is("undo()", kept.undo(), 0);
        is("again(0): kept behind what was undone", kept.again(0), true);
        is("count(2)", kept.count(2), 1);
    }
}
