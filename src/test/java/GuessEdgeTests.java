/** The edges that promises 36 to 48, 51 and 52 name, each on a new object, and the 512 calls. */
public final class GuessEdgeTests {
    private static final Checks checks = new Checks();
    private static final Edges edges = new Edges(checks);

    private static final int ALL_WISHES = (1 << 19) - 1;

    public static void main(String[] args) {
        seenRefused();
        seenTen();
        caresNone();
        cares();
        looks();
        heardRefused();
        heardTwelve();
        fits();
        asks();
        faintsRefused();
        faints();
        plankRefused();
        plank();
        lawCantStand();
        law();
        crossings();
        yearsRefused();
        years();
        counts();
        rows();
        manyCalls();
        checks.finish();
    }

    private static VotingFloor tell(VotingFloor floor, String text) {
        return Checks.tell(floor, text);
    }

    private static VotingFloor withPeople(String lines) {
        return Checks.withPeople(lines);
    }

    private static VotingFloor placed(String lines, int... places) {
        return Checks.placed(lines, places);
    }

    private static VotingFloor nobody() {
        VotingFloor floor = new VotingFloor();
        floor.tips();
        return floor;
    }

    private static void is(String call, long got, long due) {
        checks.is(call, got, due);
    }

    // ---- how much one cares

    private static void seenRefused() {
        checks.about("36: refused: others");
        int[][] none = {
            {-1, 0, 0}, {3, 0, 0}, {0, -1, 0}, {0, 21, 0}, {0, 0, -10}, {0, 0, 10}, {3, 21, 10}, {7, 0, 0},
        };
        for (int[] one : none) {
            edges.refused("seen(" + one[0] + ", " + one[1] + ", " + one[2] + ")", -1,
                floor -> floor.seen(one[0], one[1], one[2]));
        }
        for (int wild : Edges.WILD) {
            edges.refused("seen(" + wild + ", 0, 0)", -1, floor -> floor.seen(wild, 0, 0));
            edges.refused("seen(0, " + wild + ", 0)", -1, floor -> floor.seen(0, wild, 0));
            edges.refused("seen(0, 0, " + wild + ")", -1, floor -> floor.seen(0, 0, wild));
        }
        edges.refused(GuessEdgeTests::nobody, "seen(0, 0, 0), nobody", -1, floor -> floor.seen(0, 0, 0));
        checks.about("36: a PLACE (-9 .. 9) in n MINUTES (0 .. 20)");
        is("seen(0, 0, -9)", withPeople("1+1").seen(0, 0, -9), 1);
        is("seen(0, 20, 9)", withPeople("1+1").seen(0, 20, 9), 1);
        is("seen(6, 20, 9)", withPeople(Edges.SEVEN).seen(6, 20, 9), 1);
        VotingFloor off = withPeople("1+1");
        off.steps(0);
        is("seen(0, 0, 0), OFF", off.seen(0, 0, 0), 1);
    }

    private static VotingFloor seenOften(int times) {
        VotingFloor floor = withPeople("5+3;2-9");
        for (int k = 1; k <= times; k++) {
            is("seen(), once more", floor.seen(0, k, Math.min(3, k)), k);
        }
        return floor;
    }

    private static void seenTen() {
        checks.about("36: refused: 10");
        is("count(6)", seenOften(10).count(6), 10);
        edges.refused(() -> seenOften(10), "seen(), the 11th", -1, floor -> floor.seen(0, 0, 0));
        edges.refused(() -> seenOften(10), "seen(), one that was seen", -1, floor -> floor.seen(0, 1, 1));
        checks.about("36: the 10th counts");
        VotingFloor tenth = seenOften(9);
        is("cares(0)", tenth.cares(0), 1 << 12);
        is("seen()", tenth.seen(0, 10, 4), 10);
        is("cares(0)", tenth.cares(0), 0);
        checks.about("37: how many there were");
        edges.refused(() -> withPeople("5+3"), "forget(), nothing seen", 0, VotingFloor::forget);
        VotingFloor floor = seenOften(10);
        is("forget()", floor.forget(), 10);
        is("count(6)", floor.count(6), 0);
        is("forget()", floor.forget(), 0);
        is("cares(0): all again", floor.cares(0), ALL_WISHES);
        is("seen(): there is room again", floor.seen(1, 0, 0), 1);
        checks.about("37: it does not forget what was heard");
        VotingFloor heard = Edges.busy();
        is("forget()", heard.forget(), 2);
        is("count(7)", heard.count(7), 2);
    }

    private static void caresNone() {
        checks.about("38: NONE: none such");
        edges.refused("cares(-1)", -1, floor -> floor.cares(-1));
        edges.refused("cares(3)", -1, floor -> floor.cares(3));
        edges.refused(GuessEdgeTests::nobody, "cares(0), nobody", -1, floor -> floor.cares(0));
        for (int wild : Edges.WILD) {
            edges.refused("cares(" + wild + ")", -1, floor -> floor.cares(wild));
        }
        checks.about("38: nothing more without");
        VotingFloor none = withPeople("5+3");
        none.seen(0, 0, 1);
        none.tips();
        is("cares(0)", none.cares(0), 0);
        checks.rowIs(none, 0);
        checks.about("38: nothing was seen");
        VotingFloor all = withPeople("5+3");
        is("cares(0)", all.cares(0), ALL_WISHES);
        checks.rowIs(all, 19, 91, 109);
    }

    private static void cares() {
        checks.about("38: bit 9 more than it");
        for (int wish = -9; wish <= 9; wish++) {
            VotingFloor floor = withPeople("5+3");
            floor.seen(0, 20, wish);
            is("cares(0), seen on " + wish, floor.cares(0), 1 << (9 + wish));
            checks.rowIs(floor, 1, 100 + wish, 100 + wish);
        }
        checks.about("38: now, in 0 MINUTES");
        VotingFloor now = placed("5+3", -4);
        now.seen(0, 0, -4);
        is("cares(0)", now.cares(0), ALL_WISHES);
        checks.about("38: of others, too");
        VotingFloor other = withPeople("5+3;2-9");
        other.seen(1, 1, 1);
        is("cares(0): the other one does not so, whatever he wishes", other.cares(0), 0);
        is("cares(1)", other.cares(1), ALL_WISHES & ~0x3FF);
        checks.rowIs(other, 9, 101, 109);
        // the other one goes where the floor is down: to the east a minute behind him
        VotingFloor follows = withPeople("1+0;1+0");
        tell(follows, "i*m+(1-i)*(c-p)").rule();
        follows.seen(1, 2, 1);
        is("cares(0): by where the other one went", follows.cares(0), ALL_WISHES & ~0x3FF);
        checks.rowIs(follows, 9, 101, 109);
        checks.about("38: all that was seen, the last MINUTES told first");
        VotingFloor order = withPeople("5+3");
        order.seen(0, 9, 7);
        order.seen(0, 1, 1);
        order.seen(0, 0, 0);
        is("cares(0)", order.cares(0), 1 << 16);
        checks.rowIs(order, 1, 107, 107);
        order.seen(0, 8, 8);
        is("cares(0), nor can that be", order.cares(0), 0);
        checks.about("38: who is OFF stays");
        VotingFloor off = withPeople("5+3");
        off.steps(0);
        off.seen(0, 20, 0);
        is("cares(0)", off.cares(0), ALL_WISHES);
        off.seen(0, 20, 1);
        is("cares(0)", off.cares(0), 0);
        checks.about("38: two that can't both be");
        VotingFloor two = withPeople("5+3");
        two.seen(0, 5, 3);
        two.seen(0, 5, 4);
        is("cares(0)", two.cares(0), 0);
    }

    private static void looks() {
        checks.about("39: NONE: none such");
        edges.refused("looks(-1)", -1, floor -> floor.looks(-1));
        edges.refused("looks(3)", -1, floor -> floor.looks(3));
        edges.refused(GuessEdgeTests::nobody, "looks(0), nobody", -1, floor -> floor.looks(0));
        for (int wild : Edges.WILD) {
            edges.refused("looks(" + wild + ")", -1, floor -> floor.looks(wild));
        }
        checks.about("39: -2: none is left");
        edges.refused(GuessEdgeTests::seenWrong, "looks(0)", -2, floor -> floor.looks(0));
        edges.refused(GuessEdgeTests::seenWrong, "looks(1), by what was seen of another one", -2, floor -> floor.looks(1));
        checks.about("39: of equal ones the first");
        VotingFloor off = withPeople("5+3");
        off.steps(0);
        is("looks(0), OFF", off.looks(0), 0);
        checks.rowIs(off, 19);
        off.leads(0, -9);
        for (int k = 0; k < 2; k++) {
            is("looks(0), OFF at the wall", off.looks(0), 0);
            checks.rowIs(off, 19);
        }
        VotingFloor one = withPeople("5+3");
        one.seen(0, 20, 3);
        is("looks(0), one is left", one.looks(0), 0);
        checks.rowIs(one, 1);
        VotingFloor all = withPeople("5+3");
        is("looks(0), all are left", all.looks(0), 9);
        checks.rowIs(all, 1);
        VotingFloor wall = placed("5+3", 9);
        is("looks(0), at the wall", wall.looks(0), 18);
        checks.rowIs(wall, 1);
        is("looks(0), once more", wall.looks(0), 18);
        checks.rowIs(wall, 1);
        VotingFloor sides = withPeople("5+3");
        tell(sides, "(c>0)-(c<0)").rule();
        is("looks(0), in 1", sides.looks(0), 1);
        checks.rowIs(sides, 9);
        tell(sides, "((c>0)-(c<0))*(n>0)").rule();
        is("looks(0), in 2", sides.looks(0), 2);
        checks.rowIs(sides, 9);
        // out in MINUTE 0, back in MINUTE 1, and once more a week later
        VotingFloor back = withPeople("5+3");
        tell(back, "c*(n=0)-c*(n=1)").rule();
        is("looks(0), in 1, behind which all are on the pin", back.looks(0), 1);
        checks.rowIs(back, 9);
        VotingFloor west = withPeople("5+3");
        tell(west, "-1*(c<9)").rule();
        is("looks(0), the most in the west", west.looks(0), 1);
        checks.rowIs(west, 18);
        checks.about("39: in how many MINUTES (0 .. 20)");
        // the floor is above 6 only behind 19 minutes, when the other one is on 7: then he walks as he wishes
        VotingFloor last = placed("1+1;1+1", 0, -9);
        tell(last, "i*(n>0)+(1-i)*c*(m>6)").rule();
        is("looks(0), the last one", last.looks(0), 20);
        checks.rowIs(last, 9);
        VotingFloor beyond = placed("1+1;1+1", 0, -9);
        tell(beyond, "i*(n>0)+(1-i)*c*(m>7)").rule();
        is("looks(0), beyond it all is alike", beyond.looks(0), 0);
        checks.rowIs(beyond, 19);
    }

    private static VotingFloor seenWrong() {
        VotingFloor floor = withPeople("5+3;2-9");
        floor.seen(0, 0, 5);
        floor.tips();
        return floor;
    }

    // ---- which one it was

    private static void heardRefused() {
        checks.about("40: refused: others");
        int[][] none = {
            {0, 0}, {0, 19}, {0, -1}, {1, -1}, {1, 2}, {2, -1}, {2, 10}, {3, -1}, {3, 2}, {4, -1}, {4, 2}, {5, 0}, {5, 1},
            {-1, 0}, {-1, 1},
        };
        for (int[] one : none) {
            edges.refused("heard(" + one[0] + ", " + one[1] + ")", -1, floor -> floor.heard(one[0], one[1]));
        }
        for (int wild : Edges.WILD) {
            edges.refused("heard(" + wild + ", 1)", -1, floor -> floor.heard(wild, 1));
            for (int what = 0; what <= 4; what++) {
                int one = what;
                edges.refused("heard(" + what + ", " + wild + ")", -1, floor -> floor.heard(one, wild));
            }
        }
        checks.about("40: as they may be");
        int[][] may = {{0, 1}, {0, 18}, {1, 0}, {1, 1}, {2, 0}, {2, 9}, {3, 0}, {3, 1}, {4, 0}, {4, 1}};
        for (int[] one : may) {
            is("heard(" + one[0] + ", " + one[1] + ")", withPeople("1+1").heard(one[0], one[1]), 1);
            is("heard(" + one[0] + ", " + one[1] + "), nobody", new VotingFloor().heard(one[0], one[1]), 1);
        }
    }

    private static VotingFloor heardOften(int times) {
        VotingFloor floor = withPeople("5+3;2-9");
        for (int k = 1; k <= times; k++) {
            is("heard(), once more", floor.heard(0, 1), k);
        }
        return floor;
    }

    private static void heardTwelve() {
        checks.about("40: refused: 12");
        is("count(7)", heardOften(12).count(7), 12);
        edges.refused(() -> heardOften(12), "heard(), the 13th", -1, floor -> floor.heard(0, 18));
        checks.about("40: the 12th counts");
        VotingFloor twelfth = heardOften(11);
        is("fits()", twelfth.fits(), 3);
        is("heard()", twelfth.heard(1, 1), 12);
        is("fits()", twelfth.fits(), 1);
        checks.about("41: how many there were");
        edges.refused(() -> withPeople("5+3"), "denies(), nothing heard", 0, VotingFloor::denies);
        is("denies()", twelfth.denies(), 12);
        is("count(7)", twelfth.count(7), 0);
        is("denies()", twelfth.denies(), 0);
        is("fits(): all again", twelfth.fits(), 3);
        is("heard(): there is room again", twelfth.heard(1, 0), 1);
        checks.about("41: it does not deny what was seen");
        VotingFloor seen = Edges.busy();
        is("denies()", seen.denies(), 2);
        is("count(6)", seen.count(6), 2);
    }

    /** LOAD 18, 1, 9; WISH 1, 0, -1; PLACE 9, -1, 0; the last one is OFF. */
    private static VotingFloor three() {
        VotingFloor floor = placed("9+1;1+0;9-1", 9, -1, 0);
        floor.sacks(0, 9);
        floor.steps(2);
        return floor;
    }

    private static void fits() {
        checks.about("42: what was heard of one");
        int[][] dues = {
            {0, 1, 7}, {0, 2, 5}, {0, 9, 5}, {0, 10, 1}, {0, 18, 1}, {1, 1, 1}, {1, 0, 6}, {2, 0, 7}, {2, 1, 3}, {2, 2, 1},
            {2, 9, 1}, {3, 1, 1}, {3, 0, 6}, {4, 1, 4}, {4, 0, 3},
        };
        for (int[] due : dues) {
            VotingFloor floor = three();
            floor.heard(due[0], due[1]);
            is("fits(), heard " + due[0] + ", " + due[1], floor.fits(), due[2]);
            checks.rowIs(floor, Integer.bitCount(due[2]));
        }
        VotingFloor light = withPeople("8+1");
        light.sacks(0, 9);
        light.heard(0, 18);
        is("fits(), LOAD 17", light.fits(), 0);
        checks.rowIs(light, 0);
        checks.about("42: nothing was heard");
        VotingFloor all = withPeople(Edges.SEVEN);
        is("fits(), seven", all.fits(), 127);
        checks.rowIs(all, 7);
        VotingFloor nobody = new VotingFloor();
        is("fits(), nobody", nobody.fits(), 0);
        checks.rowIs(nobody, 0);
        nobody.heard(2, 0);
        is("fits(), nobody", nobody.fits(), 0);
        checks.about("42: what can't both be");
        VotingFloor both = three();
        both.heard(1, 1);
        both.heard(1, 0);
        is("fits()", both.fits(), 0);
        checks.rowIs(both, 0);
    }

    private static VotingFloor noneFits() {
        VotingFloor floor = three();
        floor.heard(4, 1);
        floor.heard(4, 0);
        floor.tips();
        return floor;
    }

    private static void asks() {
        checks.about("43: -2: none fits");
        edges.refused(GuessEdgeTests::noneFits, "asks()", -2, VotingFloor::asks);
        edges.refused(GuessEdgeTests::nobody, "asks(), nobody", -2, VotingFloor::asks);
        checks.about("43: of equal ones the least");
        VotingFloor one = withPeople("5+3");
        is("asks(), one alone", one.asks(), 1);
        checks.rowIs(one, 1);
        VotingFloor alike = withPeople("5+3;5+3;5+3");
        is("asks(), all alike", alike.asks(), 1);
        checks.rowIs(alike, 3);
        VotingFloor three = three();
        is("asks()", three.asks(), 2);
        checks.rowIs(three, 2);
        checks.about("43: 20 times what and v, as they may be heard");
        VotingFloor heavy = withPeople("9+1;9+1");
        heavy.sacks(0, 9);
        heavy.sacks(1, 8);
        is("asks(), LOAD 18", heavy.asks(), 18);
        is("asks(), WISH", withPeople("5+1;5-1").asks(), 20);
        is("asks(), the wall", placed("5+1;5+1", 9, 8).asks(), 49);
        is("asks(), next to the pin", placed("5+1;5+1", 0, 1).asks(), 41);
        is("asks(), the side", placed("5+1;5+1", 1, -1).asks(), 60);
        VotingFloor off = withPeople("5+1;5+1");
        off.steps(0);
        is("asks(), OFF", off.asks(), 80);
        checks.rowIs(off, 1);
        VotingFloor half = withPeople("1+1;1+1;2+1;2-1");
        is("asks(), half of them", half.asks(), 2);
        checks.rowIs(half, 2);
        half.heard(0, 2);
        is("asks(), of those that fit", half.asks(), 20);
        checks.rowIs(half, 1);
    }

    // ---- faints, a plank

    private static void faintsRefused() {
        checks.about("44: NONE: another p");
        edges.refused("faints(-1)", -1, floor -> floor.faints(-1));
        edges.refused("faints(11)", -1, floor -> floor.faints(11));
        for (int wild : Edges.WILD) {
            edges.refused("faints(" + wild + ")", -1, floor -> floor.faints(wild));
        }
    }

    private static void fractionOfFaints(VotingFloor floor, int p, long upper, long lower) {
        is("faints(" + p + ")", floor.faints(p), 0);
        checks.rowIs(floor, upper, lower);
    }

    private static void faints() {
        checks.about("44: nobody, all OFF");
        for (int p = 0; p <= 10; p++) {
            fractionOfFaints(new VotingFloor(), p, 0, 1);
            VotingFloor off = placed("5+3", 9);
            off.steps(0);
            fractionOfFaints(off, p, 0, 1);
        }
        checks.about("44: p tenths (0 .. 10)");
        long[][] one = {{1, 1}, {9, 10}, {4, 5}, {7, 10}, {3, 5}, {1, 2}, {2, 5}, {3, 10}, {1, 5}, {1, 10}, {0, 1}};
        for (int p = 0; p <= 10; p++) {
            fractionOfFaints(placed("5+3", 1), p, one[p][0], one[p][1]);
            fractionOfFaints(placed("5+3", -1), p, 0, 1);
            fractionOfFaints(placed("5+3", 0), p, 0, 1);
        }
        fractionOfFaints(placed("5+3;5+3", 1, -1), 0, 0, 1);
        fractionOfFaints(placed("5+3;5+3", 1, -1), 5, 1, 4);
        checks.about("44: each who is not OFF, be others OFF ahead of him");
        for (int off = 0; off < 3; off++) {
            VotingFloor some = placed("5+3;5+3;5+3", 1, 1, 1);
            some.steps(off);
            fractionOfFaints(some, 5, 3, 4);
            fractionOfFaints(some, 3, 91, 100);
            some.leads((off + 1) % 3, -2);
            fractionOfFaints(some, 3, 21, 100);
        }
        checks.about("44: seven");
        int[] east = {9, 9, 9, 9, 9, 9, 9};
        fractionOfFaints(placed(Edges.SEVEN, east), 0, 1, 1);
        fractionOfFaints(placed(Edges.SEVEN, east), 1, 9999999, 10000000);
        fractionOfFaints(placed(Edges.SEVEN, east), 5, 127, 128);
        fractionOfFaints(placed(Edges.SEVEN, east), 9, 5217031, 10000000);
        fractionOfFaints(placed(Edges.SEVEN, east), 10, 0, 1);
    }

    private static void plankRefused() {
        checks.about("45: NONE: others");
        int[][] none = {{-1, 2}, {61, 2}, {0, 1}, {0, 10}, {60, 1}, {60, 10}, {61, 10}, {-1, 1}, {5, 0}, {5, -2}};
        for (int[] one : none) {
            edges.refused("plank(" + one[0] + ", " + one[1] + ")", -1, floor -> floor.plank(one[0], one[1]));
        }
        for (int wild : Edges.WILD) {
            edges.refused("plank(" + wild + ", 3)", -1, floor -> floor.plank(wild, 3));
            edges.refused("plank(3, " + wild + ")", -1, floor -> floor.plank(3, wild));
        }
    }

    private static void plank() {
        checks.about("45: who can't go has lost (not beyond the end)");
        for (int k = 2; k <= 9; k++) {
            is("plank(0, " + k + ")", new VotingFloor().plank(0, k), 0);
            is("plank(1, " + k + ")", new VotingFloor().plank(1, k), 1);
        }
        checks.about("45: never as many as the other one went just now");
        for (int k = 2; k <= 9; k++) {
            is("plank(2, " + k + ")", new VotingFloor().plank(2, k), 1);
        }
        checks.about("45: the least number by which the first one wins; 0: by none");
        is("plank(3, 2)", new VotingFloor().plank(3, 2), 0);
        is("plank(3, 3)", new VotingFloor().plank(3, 3), 3);
        is("plank(4, 2)", new VotingFloor().plank(4, 2), 1);
        is("plank(4, 3)", new VotingFloor().plank(4, 3), 0);
        is("plank(4, 4)", new VotingFloor().plank(4, 4), 4);
        checks.about("45: every plank");
        for (int n = 0; n <= 60; n++) {
            for (int k = 2; k <= 9; k++) {
                is("plank(" + n + ", " + k + ")", new VotingFloor().plank(n, k), new FloorModel().plank(n, k));
            }
        }
        checks.about("45: each plank by itself, whatever was asked ahead of it");
        VotingFloor again = new VotingFloor();
        for (int n = 60; n >= 0; n--) {
            for (int k = 9; k >= 2; k--) {
                is("plank(" + n + ", " + k + ")", again.plank(n, k), new FloorModel().plank(n, k));
            }
        }
    }

    // ---- laws, crossings, years

    private static void lawCantStand() {
        checks.about("46: -10000 - p: the sign at p can't stand there (as rule())");
        Object[][] bad = {
            {"x", 0}, {"+1", 0}, {"()", 1}, {"c1", 1}, {"1234", 3}, {"1<2<3", 3}, {"(((((1)))))", 4}, {"c+", 2}, {"-", 1}, {"(", 1},
            {"(c", 2}, {"1+".repeat(20), 40}, {"1+".repeat(20) + "1", 40}, {"1+".repeat(19) + "12+", 40},
            {"1+".repeat(19) + "1x+", 39}, {"-".repeat(80), 40},
        };
        for (Object[] one : bad) {
            edges.refusedText((String) one[0], -10000 - (Integer) one[1], VotingFloor::law);
        }
        is("law() of just 40", tell(new VotingFloor(), "1+".repeat(19) + "12").law(), 5000);
    }

    private static void law() {
        checks.about("46: an empty one: none");
        VotingFloor none = withPeople("5+3");
        tell(none, "0").rule();
        is("law()", tell(none, "").law(), 5015);
        checks.rowIs(none, 2, 1, 103);
        checks.about("46: THE RULE stays");
        is("one(0, 5)", none.one(0, 5), 0);
        is("count(10)", none.count(10), 0);
        is("count(2)", none.count(2), 0);
        checks.about("46: less by THE RULE");
        for (int side : new int[] {1, -1}) {
            VotingFloor floor = withPeople("9+9;9+9;9+9;9+9;9+9;9+9;9+9");
            for (int i = 0; i < 7; i++) {
                floor.sacks(i, 9);
            }
            tell(floor, side > 0 ? "-1" : "1").rule();
            is("law()", tell(floor, side > 0 ? "1" : "-1").law(), 5000 + side * 2268);
            long place = 100 + 9 * side;
            checks.rowIs(floor, 1 + side, 1 - side, place, place, place, place, place, place, place);
        }
        checks.about("46: nobody");
        VotingFloor nobody = new VotingFloor();
        is("law()", tell(nobody, "1").law(), 5000);
        checks.rowIs(nobody, 1, 1);
        checks.about("46: MOMENT at NOON (as decides()): none if it is so late already");
        VotingFloor late = withPeople("5+3");
        late.noon(1);
        late.minutes(1);
        is("law()", tell(late, "-1").law(), 5000);
        checks.rowIs(late, 2, 2, 101);
        checks.about("46: PLACES of all, who is OFF too");
        VotingFloor off = placed("5+3;2-9", 0, -7);
        off.steps(1);
        is("law()", tell(off, "-1").law(), 5000 - 45 - 15);
        checks.rowIs(off, 0, 2, 91, 93);
    }

    private static void crossings() {
        checks.about("47: NONE: another v");
        edges.refused("crossings(-1)", -1, floor -> floor.crossings(-1));
        edges.refused("crossings(21)", -1, floor -> floor.crossings(21));
        for (int wild : Edges.WILD) {
            edges.refused("crossings(" + wild + ")", -1, floor -> floor.crossings(wild));
        }
        checks.about("47: v (0 .. 20); there is a pair for each, so that no ROW is empty");
        for (int v = 0; v <= 20; v++) {
            FloorModel model = new FloorModel();
            VotingFloor floor = new VotingFloor();
            floor.tips();
            is("crossings(" + v + ")", floor.crossings(v), model.crossings(v));
            checks.rowIs(floor, model.row.stream().mapToLong(number -> number).toArray());
            is("count(9)", floor.count(9), 2);
        }
    }

    private static void yearsRefused() {
        checks.about("48: NONE: another n");
        edges.refused("years(1, 0)", -1, floor -> floor.years(1, 0));
        edges.refused("years(1, -1)", -1, floor -> floor.years(1, -1));
        edges.refused("years(1, 61)", -1, floor -> floor.years(1, 61));
        for (int wild : Edges.WILD) {
            edges.refused("years(1, " + wild + ")", -1, floor -> floor.years(1, wild));
        }
    }

    private static long drawn;

    /** A DRAW without a wrap-around: of the 32 lowest bits of a longer number. */
    private static int draw(int n) {
        drawn = (drawn * 1103515245L + 12345L) % 4294967296L;
        return (int) (drawn / 65536 % n);
    }

    /** The years, done one by one by the calls that do so. */
    private static void yearsAreDone(VotingFloor asked, VotingFloor done, int seed, int n) {
        drawn = seed < 0 ? seed + 4294967296L : seed;
        int carried = 0;
        for (int k = 0; k < n; k++) {
            int what = draw(4);
            if (what < 2) {
                done.minutes(1);
            } else if (done.count(0) > 0) {
                int who = draw(done.count(0));
                if (what == 2) {
                    done.sacks(who, draw(10));
                } else {
                    done.steps(who);
                }
            }
            carried += done.count(4) > 2000 ? 1 : 0;
        }
        is("years(" + seed + ", " + n + ")", asked.years(seed, n), done.count(4));
        checks.rowIs(asked, carried, done.count(1));
    }

    private static void years() {
        checks.about("48: n times (1 .. 60), by any seed");
        int[] seeds = {0, 1, -1, 2, 12345, -12345, 65536, 1 << 30, Integer.MAX_VALUE, Integer.MIN_VALUE, 0x7FFF0000, 0x80000001};
        for (int seed : seeds) {
            for (int n : new int[] {1, 2, 3, 10, 59, 60}) {
                yearsAreDone(withPeople("5+3;2-9;4+1"), withPeople("5+3;2-9;4+1"), seed, n);
                yearsAreDone(withPeople("5+3"), withPeople("5+3"), seed, n);
                yearsAreDone(withPeople(Edges.SEVEN), withPeople(Edges.SEVEN), seed, n);
                yearsAreDone(Edges.busy(), Edges.busy(), seed, n);
            }
        }
        checks.about("48: nobody");
        for (int seed : seeds) {
            VotingFloor nobody = new VotingFloor();
            is("years(" + seed + ", 60)", nobody.years(seed, 60), 2000);
            checks.rowIs(nobody, 0, 0);
        }
        checks.about("48: as it was once more");
        VotingFloor twice = Edges.busy();
        int first = twice.years(7, 60);
        is("years(7, 60)", twice.years(7, 60), first);
    }

    // ---- kept

    private static void counts() {
        checks.about("51: -100 for another what");
        edges.refused("count(-1)", -100, floor -> floor.count(-1));
        edges.refused("count(11)", -100, floor -> floor.count(11));
        for (int wild : Edges.WILD) {
            edges.refused("count(" + wild + ")", -100, floor -> floor.count(wild));
        }
        checks.about("51: what 0 .. 10");
        int[] busy = {3, 3, 2, 20, 2000 + 10 - 16, 13, 2, 2, 5, 4, 3};
        for (int what = 0; what <= 10; what++) {
            int one = what;
            edges.refused("count(" + what + ")", busy[what], floor -> floor.count(one));
        }
        VotingFloor full = withPeople("9-9;9-9;9-9;9-9;9-9;9-9;9-9");
        for (int i = 0; i < 7; i++) {
            full.sacks(i, 9);
        }
        full.minutes(60);
        is("count(1), seven", full.count(1), 127);
        is("count(4), seven at the wall", full.count(4), 866);
        is("count(5), seven", full.count(5), 126);
        for (int i = 0; i < 7; i++) {
            full.steps(i);
        }
        is("count(0), all OFF", full.count(0), 7);
        is("count(1), all OFF", full.count(1), 0);
        is("count(4), all OFF", full.count(4), 2000);
        is("count(5), all OFF", full.count(5), 0);
        is("count(8), fifteen", full.count(8), 15);
    }

    private static void rows() {
        checks.about("52: NoSuchElementException: none such");
        edges.thrown("row(-1)", floor -> floor.row(-1));
        edges.thrown("row(4)", floor -> floor.row(4));
        for (int wild : Edges.WILD) {
            edges.thrown("row(" + wild + ")", floor -> floor.row(wild));
        }
        checks.rowIs(new VotingFloor());
        checks.about("52: a shorter ROW behind a longer one");
        VotingFloor shorter = withPeople(Edges.SEVEN);
        shorter.decides();
        is("count(9)", shorter.count(9), 8);
        shorter.fits();
        checks.rowIs(shorter, 7);
        checks.about("52: the longest ROW");
        VotingFloor longest = withPeople(Edges.SEVEN);
        tell(longest, "").law();
        checks.rowIs(longest, 2, 2, 101, 102, 103, 104, 105, 106, 107);
    }

    private static void manyCalls() {
        checks.about("at most 512 calls");
        VotingFloor floor = withPeople("5+9");
        tell(floor, "(n<6)*2-1").rule();
        // ten calls have been made by this, and behind the minutes there are five more
        for (int k = 1; k <= 490; k++) {
            floor.minutes(60);
        }
        is("count(2)", floor.count(2), 29400);
        is("count(8)", floor.count(8), 15);
        // 29400 is 7 times 4200: he went back by one, and was at the wall ahead of that
        is("one(0, 2)", floor.one(0, 2), 8);
        is("undo()", floor.undo(), 14);
        is("count(2)", floor.count(2), 29340);
        VotingFloor signs = new VotingFloor();
        for (int k = 1; k <= 512; k++) {
            is("sign()", signs.sign(0), k <= 20 ? 4 * k : -1);
        }
    }
}
