import java.util.function.ToLongFunction;

/** The edges that promises 16 to 35 name, each on a new object. */
public final class QuestionEdgeTests {
    private static final Checks checks = new Checks();
    private static final Edges edges = new Edges(checks);

    private static final String ALIKE = "9+9;9+9;9+9;9+9;9+9;9+9;9+9";

    public static void main(String[] args) {
        questionsChangeNothing();
        rowsAreToldAnew();
        tips();
        later();
        decides();
        spares();
        swings();
        level();
        rest();
        walksRefused();
        walks();
        wall();
        bears();
        canvass();
        clears();
        heads();
        power();
        strongest();
        just();
        farthest();
        line();
        backs();
        crowd();
        checks.finish();
    }

    private static VotingFloor tell(VotingFloor floor, String text) {
        return Checks.tell(floor, text);
    }

    private static VotingFloor withPeople(String lines) {
        return Checks.withPeople(lines);
    }

    private static VotingFloor placed(String lines, int... places) {
        return Checks.placed(lines, places);
    }

    private static VotingFloor walkingBy(String rule, String lines, int... places) {
        VotingFloor floor = placed(lines, places);
        is("rule() of " + rule, tell(floor, rule).rule(), 0);
        return floor;
    }

    /** All of PEOPLE are OFF, and the ROW has one number. */
    private static VotingFloor allOff() {
        VotingFloor floor = placed("5+3;2-9;4+1", 3, -4, 9);
        for (int i = 0; i < 3; i++) {
            floor.steps(i);
        }
        floor.fits();
        return floor;
    }

    /** Nobody is there, and the ROW has one number. */
    private static VotingFloor nobody() {
        VotingFloor floor = new VotingFloor();
        floor.fits();
        return floor;
    }

    /** Seven of LOAD 18 on one PLACE. */
    private static VotingFloor heaviest(int place) {
        VotingFloor floor = withPeople(ALIKE);
        for (int i = 0; i < 7; i++) {
            floor.sacks(i, 9);
            floor.leads(i, place);
        }
        return floor;
    }

    private static void is(String call, long got, long due) {
        checks.is(call, got, due);
    }

    private static void questionsChangeNothing() {
        checks.about("terms: questions change nothing");
        edges.changesRowAlone("tips()", VotingFloor::tips);
        edges.changesRowAlone("later(0, 60)", floor -> floor.later(0, 60));
        edges.changesRowAlone("decides()", VotingFloor::decides);
        edges.changesRowAlone("spares()", VotingFloor::spares);
        edges.changesRowAlone("swings()", VotingFloor::swings);
        edges.changesRowAlone("level()", VotingFloor::level);
        edges.changesRowAlone("rest()", VotingFloor::rest);
        edges.changesRowAlone("walks(3)", floor -> floor.walks(3));
        edges.changesRowAlone("wall()", VotingFloor::wall);
        edges.changesRowAlone("bears(0)", floor -> floor.bears(0));
        edges.changesRowAlone("canvass()", VotingFloor::canvass);
        edges.changesRowAlone("clears()", VotingFloor::clears);
        edges.changesRowAlone("heads()", VotingFloor::heads);
        edges.changesRowAlone("power(0)", floor -> floor.power(0));
        edges.changesRowAlone("strongest()", VotingFloor::strongest);
        edges.changesRowAlone("just(8)", floor -> floor.just(8));
        edges.changesRowAlone("farthest()", VotingFloor::farthest);
        edges.changesRowAlone("line()", VotingFloor::line);
        edges.changesRowAlone("backs()", VotingFloor::backs);
        edges.changesRowAlone("crowd()", VotingFloor::crowd);
        edges.changesRowAlone("cares(0)", floor -> floor.cares(0));
        edges.changesRowAlone("looks(0)", floor -> floor.looks(0));
        edges.changesRowAlone("fits()", VotingFloor::fits);
        edges.changesRowAlone("asks()", VotingFloor::asks);
        edges.changesRowAlone("faints(3)", floor -> floor.faints(3));
        edges.changesRowAlone("plank(60, 9)", floor -> floor.plank(60, 9));
        edges.changesRowAlone("crossings(5)", floor -> floor.crossings(5));
        edges.changesRowAlone("years(3, 60)", floor -> floor.years(3, 60));
        edges.refused("plank(60, 9) tells no ROW", new VotingFloor().plank(60, 9), floor -> floor.plank(60, 9));
        edges.refused("count(4)", Edges.busy().count(4), floor -> floor.count(4));
        edges.refused("row(0)", Edges.busy().row(0), floor -> floor.row(0));
        edges.refused("one(0, 5)", Edges.busy().one(0, 5), floor -> floor.one(0, 5));
    }

    /** Both all OFF and nobody there answer -2, and the ROW stays. */
    private static void nothingOfNobody(String call, ToLongFunction<VotingFloor> act) {
        edges.refused(QuestionEdgeTests::allOff, call + ", all OFF", -2, act);
        edges.refused(QuestionEdgeTests::nobody, call + ", nobody", -2, act);
    }

    /** The ROW holds what was told last alone, whatever was told ahead of it. */
    private static void rowIsToldAnew(String call, ToLongFunction<VotingFloor> act) {
        VotingFloor longer = Edges.busy();
        longer.decides();
        act.applyAsLong(longer);
        VotingFloor empty = Edges.busy();
        empty.backs();
        is("count(9), nothing told", empty.count(9), 0);
        act.applyAsLong(empty);
        is("count(9) behind " + call, longer.count(9), empty.count(9));
        is("more than nothing behind " + call, empty.count(9) > 0 ? 1 : 0, 1);
        edges.alike(call, longer, empty);
    }

    private static void rowsAreToldAnew() {
        checks.about("terms: ROW: numbers told last");
        rowIsToldAnew("minutes(1)", floor -> floor.minutes(1));
        rowIsToldAnew("morning()", floor -> tell(floor, "n1").morning());
        rowIsToldAnew("tips()", VotingFloor::tips);
        rowIsToldAnew("later(0, 9)", floor -> floor.later(0, 9));
        rowIsToldAnew("decides()", VotingFloor::decides);
        rowIsToldAnew("spares()", VotingFloor::spares);
        rowIsToldAnew("swings()", floor -> floor.swings() + floor.leads(0, 9) + floor.swings());
        rowIsToldAnew("level()", floor -> floor.steps(0) + floor.steps(1) + floor.level());
        rowIsToldAnew("rest()", floor -> tell(floor, "0").rule() + floor.rest());
        rowIsToldAnew("walks(3)", floor -> floor.walks(3));
        rowIsToldAnew("wall()", VotingFloor::wall);
        rowIsToldAnew("bears(0)", floor -> floor.leads(1, 0) + floor.bears(0));
        rowIsToldAnew("canvass()", VotingFloor::canvass);
        rowIsToldAnew("clears()", VotingFloor::clears);
        rowIsToldAnew("heads()", VotingFloor::heads);
        rowIsToldAnew("power(0)", floor -> floor.power(0));
        rowIsToldAnew("strongest()", VotingFloor::strongest);
        rowIsToldAnew("just(5)", floor -> floor.just(5));
        rowIsToldAnew("farthest()", VotingFloor::farthest);
        rowIsToldAnew("line()", VotingFloor::line);
        rowIsToldAnew("backs()", floor -> floor.sacks(1, 3) + floor.leads(1, -2) + floor.leads(0, 2) + floor.backs());
        rowIsToldAnew("crowd()", VotingFloor::crowd);
        rowIsToldAnew("cares(0)", floor -> floor.cares(0));
        rowIsToldAnew("looks(0)", floor -> floor.looks(0));
        rowIsToldAnew("fits()", VotingFloor::fits);
        rowIsToldAnew("asks()", VotingFloor::asks);
        rowIsToldAnew("faints(3)", floor -> floor.faints(3));
        rowIsToldAnew("law()", floor -> tell(floor, "1").law());
        rowIsToldAnew("crossings(3)", floor -> floor.crossings(3));
        rowIsToldAnew("years(3, 9)", floor -> floor.years(3, 9));
    }

    // ---- how it tips

    private static void tips() {
        checks.about("16: none of who is OFF");
        VotingFloor off = allOff();
        is("tips(), all OFF", off.tips(), 0);
        checks.rowIs(off, 0, 0, 0);
        VotingFloor some = placed("5+3;2-9;4+1;1+1;2+1;3+1", 3, -4, 0, 9, -9, 0);
        for (int i = 3; i < 6; i++) {
            some.steps(i);
        }
        is("tips(), some OFF", some.tips(), 1);
        checks.rowIs(some, 15, 8, 4);
        checks.about("16: nobody");
        VotingFloor nobody = new VotingFloor();
        is("tips()", nobody.tips(), 0);
        checks.rowIs(nobody, 0, 0, 0);
        checks.about("16: all at a wall, on the pin");
        VotingFloor east = heaviest(9);
        is("tips()", east.tips(), 1);
        checks.rowIs(east, 1134, 0, 0);
        VotingFloor west = heaviest(-9);
        is("tips()", west.tips(), -1);
        checks.rowIs(west, 0, 1134, 0);
        VotingFloor pin = heaviest(0);
        is("tips()", pin.tips(), 0);
        checks.rowIs(pin, 0, 0, 126);
        VotingFloor level = placed("3+1;2+1", 2, -3);
        is("tips(), as much in the east as in the west", level.tips(), 0);
        checks.rowIs(level, 6, 6, 0);
    }

    private static void later() {
        checks.about("17: NONE: others");
        int[][] none = {{-1, 0}, {3, 0}, {0, -1}, {0, 61}, {3, 61}, {-1, -1}};
        for (int[] one : none) {
            edges.refused("later(" + one[0] + ", " + one[1] + ")", -1, floor -> floor.later(one[0], one[1]));
        }
        for (int wild : Edges.WILD) {
            edges.refused("later(" + wild + ", 1)", -1, floor -> floor.later(wild, 1));
            edges.refused("later(0, " + wild + ")", -1, floor -> floor.later(0, wild));
        }
        edges.refused(QuestionEdgeTests::nobody, "later(0, 0), nobody", -1, floor -> floor.later(0, 0));
        checks.about("17: in n MINUTES (0 .. 60)");
        VotingFloor now = placed("5+3;2-9", 9, -9);
        is("later(0, 0)", now.later(0, 0), 109);
        checks.rowIs(now, 2027);
        is("later(1, 0)", now.later(1, 0), 91);
        checks.rowIs(now, 2027);
        // he goes by one PLACE each seventh MINUTE, and the ninth time in the 60th one
        VotingFloor slow = walkingBy("n=3", "1+1", -9);
        is("later(0, 59)", slow.later(0, 59), 99);
        is("later(0, 60)", slow.later(0, 60), 100);
        checks.rowIs(slow, 2000);
        checks.about("17: who is OFF stays");
        VotingFloor off = withPeople("5+3;2-9");
        off.steps(1);
        is("later(1, 60)", off.later(1, 60), 100);
        checks.rowIs(off, 2015);
    }

    private static void decides() {
        checks.about("18: MINUTES go by till MINUTE is NOON");
        int[][] dues = {{1, 1, 2003, 101, 99}, {11, -1, 1997, 103, 91}};
        for (int[] due : dues) {
            VotingFloor floor = withPeople("5+3;2-9");
            floor.noon(due[0]);
            is("decides(), NOON " + due[0], floor.decides(), due[1]);
            checks.rowIs(floor, due[2], due[3], due[4]);
        }
        VotingFloor sixty = walkingBy("n=3", "1+1", -9);
        sixty.noon(60);
        is("decides(), NOON 60", sixty.decides(), 0);
        checks.rowIs(sixty, 2000, 100);
        sixty.noon(59);
        is("decides(), NOON 59", sixty.decides(), -1);
        checks.rowIs(sixty, 1999, 99);
        checks.about("18: none if it is so late already");
        for (int late : new int[] {11, 12, 13, 60}) {
            VotingFloor floor = withPeople("1+0");
            floor.minutes(late);
            tell(floor, "1").rule();
            is("decides(), MINUTE " + late, floor.decides(), late == 11 ? 1 : 0);
            checks.rowIs(floor, late == 11 ? 2001 : 2000, late == 11 ? 101 : 100);
        }
        checks.about("18: PLACES of all, in turn");
        VotingFloor off = allOff();
        is("decides(), all OFF", off.decides(), 0);
        checks.rowIs(off, 2000, 103, 96, 109);
        VotingFloor nobody = new VotingFloor();
        is("decides(), nobody", nobody.decides(), 0);
        checks.rowIs(nobody, 2000);
        VotingFloor seven = withPeople(Edges.SEVEN);
        is("decides(), seven", seven.decides(), 1);
        checks.rowIs(seven, 2140, 101, 102, 103, 104, 105, 106, 107);
    }

    private static void spares() {
        checks.about("19: -2: all are OFF (no PEOPLE, too)");
        nothingOfNobody("spares()", VotingFloor::spares);
        checks.about("19: of equal ones the first");
        VotingFloor equal = withPeople("1+2;2-9;2-9;3-6");
        is("spares()", equal.spares(), 1);
        checks.rowIs(equal, 2000 + 2 - 36, 2000 + 2 - 54);
        checks.about("19: the one who is not OFF");
        VotingFloor off = withPeople("1+2;2-9;2-8");
        off.steps(1);
        is("spares()", off.spares(), 2);
        checks.rowIs(off, 2002, 2002 - 16);
        checks.about("19: one alone, who is for it");
        VotingFloor alone = withPeople("5+3");
        is("spares()", alone.spares(), 0);
        checks.rowIs(alone, 2000, 2015);
        checks.about("19: by whose stepping off now: others walk otherwise without him");
        // with him on the pin there are others, and each goes to the east; he is gone: the other one stays
        VotingFloor crowd = walkingBy("q", "9+0;1+0;1+0", 0, 0, 5);
        crowd.noon(1);
        is("spares()", crowd.spares(), 2);
        checks.rowIs(crowd, 2010, 2015);
        checks.about("19: NOON is over");
        VotingFloor late = placed("1+9;1-9", 3, -5);
        late.noon(1);
        late.minutes(2);
        is("spares()", late.spares(), 1);
        checks.rowIs(late, 2005, 2005 - 7);
    }

    private static void swings() {
        checks.about("20: in how many MINUTES (1 .. 60)");
        // it goes by one PLACE each seventh MINUTE: from -9 it is LEVEL behind 60, or behind 61
        VotingFloor last = walkingBy("n=3", "1+1", -9);
        is("swings(), in 60", last.swings(), 60);
        checks.rowIs(last, 1);
        edges.refused(() -> walkingBy("n=4", "1+1", -9), "swings(), in 61", -2, VotingFloor::swings);
        VotingFloor first = withPeople("1+1");
        is("swings(), in 1", first.swings(), 1);
        checks.rowIs(first, 2);
        checks.about("20: of CARRIED, LEVEL, LOST");
        Object[][] ways = {
            {"1+9", 0, 1, 2}, {"1-9", 0, 1, 0}, {"1+9", -1, 1, 1}, {"1-9", 1, 1, 1}, {"1+9", -3, 3, 1}, {"1-9", 9, 9, 1},
        };
        for (Object[] one : ways) {
            VotingFloor floor = placed((String) one[0], (Integer) one[1]);
            is("swings() of " + one[0] + " on " + one[1], floor.swings(), (Integer) one[2]);
            checks.rowIs(floor, (Integer) one[3]);
        }
        VotingFloor across = placed("2+9;1+1", -1, 1);
        is("swings(), from LOST to CARRIED", across.swings(), 1);
        checks.rowIs(across, 2);
        checks.about("20: -2: in none of these");
        nothingOfNobody("swings()", VotingFloor::swings);
        edges.refused(() -> placed("1+9", 1), "swings(), CARRIED on and on", -2, VotingFloor::swings);
    }

    private static void level() {
        checks.about("21: of 61 MINUTES (0: now .. 60)");
        VotingFloor nobody = new VotingFloor();
        is("level(), nobody", nobody.level(), 61);
        checks.rowIs(nobody, 0);
        VotingFloor off = allOff();
        is("level(), all OFF", off.level(), 61);
        checks.rowIs(off, 0);
        VotingFloor now = withPeople("1+9");
        is("level(), now alone", now.level(), 1);
        checks.rowIs(now, 0);
        VotingFloor last = walkingBy("n=3", "1+1", -9);
        is("level(), in 60 alone", last.level(), 1);
        checks.rowIs(last, 60);
        VotingFloor two = walkingBy("n=2", "1+1", -9);
        is("level(), in 59 and 60", two.level(), 2);
        checks.rowIs(two, 59);
        checks.about("21: nothing without");
        VotingFloor beyond = walkingBy("n=4", "1+1", -9);
        beyond.tips();
        is("level(), in 61", beyond.level(), 0);
        checks.rowIs(beyond);
    }

    private static void rest() {
        checks.about("22: behind how many MINUTES (0 .. 60)");
        VotingFloor nobody = new VotingFloor();
        is("rest(), nobody", nobody.rest(), 0);
        checks.rowIs(nobody, 2000);
        VotingFloor off = allOff();
        is("rest(), all OFF", off.rest(), 0);
        checks.rowIs(off, 2000);
        VotingFloor there = placed("5+3", 3);
        is("rest(), now", there.rest(), 0);
        checks.rowIs(there, 2015);
        is("rest(), in 9", placed("5+9", 0).rest(), 9);
        is("rest(), from wall to wall", placed("5+9", -9).rest(), 18);
        checks.about("22: at the wall he does not walk");
        VotingFloor wall = walkingBy("1", "5+3", 7);
        is("rest()", wall.rest(), 2);
        checks.rowIs(wall, 2045);
        checks.about("22: some may in later ones");
        VotingFloor later = walkingBy("n=1", "5+3", 0);
        is("rest()", later.rest(), 0);
        checks.rowIs(later, 2000);
        later.minutes(1);
        is("rest(), one walks now", later.rest(), 1);
        checks.rowIs(later, 2005);
        checks.about("22: behind 60, and -2: behind none of these");
        // four to the east and three to the west each week; at the wall he stays, when he would go on
        VotingFloor last = restingBehind(-1);
        is("rest(), behind 60", last.rest(), 60);
        checks.rowIs(last, 2018);
        edges.refused(() -> restingBehind(-2), "rest(), a week later", -2, VotingFloor::rest);
        edges.refused(() -> walkingBy("(p<1)*2-1", "1+1", 0), "rest(), to and fro", -2, VotingFloor::rest);
    }

    private static VotingFloor restingBehind(int place) {
        VotingFloor floor = walkingBy("0", "1+9;1+9", 9, place);
        floor.minutes(6);
        tell(floor, "1-i*2*(n>3)").rule();
        return floor;
    }

    // ---- so that it is carried

    private static void walksRefused() {
        checks.about("23: NONE: bits of none such");
        int[] none = {8, 11, 16, 64, 128, 1 << 30, 1 << 31, -1, -8, Integer.MAX_VALUE};
        for (int some : none) {
            edges.refused("walks(" + some + ")", -1, floor -> floor.walks(some));
        }
        edges.refused(QuestionEdgeTests::nobody, "walks(1), nobody", -1, floor -> floor.walks(1));
        edges.refused(() -> heaviest(9), "walks(128), CARRIED", -1, floor -> floor.walks(128));
        checks.about("23: NONE: or of one who is OFF");
        for (int some = 4; some <= 7; some++) {
            int bits = some;
            edges.refused("walks(" + some + ")", -1, floor -> floor.walks(bits));
        }
        checks.about("23: -2: by none");
        edges.refused(QuestionEdgeTests::nobody, "walks(0), nobody", -2, floor -> floor.walks(0));
        edges.refused(QuestionEdgeTests::allOff, "walks(0), all OFF", -2, floor -> floor.walks(0));
        edges.refused(() -> placed("1+1", -1), "walks(0)", -2, floor -> floor.walks(0));
        checks.about("23: not beyond 9");
        edges.refused(() -> placed("1+1;9+1", 0, -1), "walks(1), LEVEL by 9", -2, floor -> floor.walks(1));
        VotingFloor just = placed("1+1;8+1", 0, -1);
        is("walks(1), CARRIED by 9", just.walks(1), 9);
        checks.rowIs(just, 9, 0);
        edges.refused(() -> placed("1+1;9+1", 9, -1), "walks(1), who is there", -2, floor -> floor.walks(1));
        edges.refused(() -> placed("2+1;9+1", 0, -2), "walks(1), LEVEL by twice 9", -2, floor -> floor.walks(1));
        // from -58 by 5 in nine PLACES, which is not enough, and then by 2 in seven
        VotingFloor both = placed("5+1;2+1;9+1;4+1", 0, 0, -6, -1);
        is("walks(3), the heavier one to the wall, the lighter one for the rest", both.walks(3), 16);
        checks.rowIs(both, 9, 7, 0, 0);
    }

    private static void walks() {
        checks.about("23: 0: it is already");
        VotingFloor already = placed("1+1;1+1", 1, 0);
        for (int some = 0; some <= 3; some++) {
            is("walks(" + some + ")", already.walks(some), 0);
            checks.rowIs(already, 0, 0);
        }
        VotingFloor much = heaviest(9);
        is("walks(127), by much", much.walks(127), 0);
        checks.rowIs(much, 0, 0, 0, 0, 0, 0, 0);
        checks.about("23: LEVEL is not CARRIED");
        VotingFloor level = withPeople("1+1;1+1");
        is("walks(3)", level.walks(3), 1);
        checks.rowIs(level, 1, 0);
        is("walks(2)", level.walks(2), 1);
        checks.rowIs(level, 0, 1);
        checks.about("23: of as few the greatest row");
        VotingFloor seven = heaviest(-9);
        is("walks(127), seven at the wall", seven.walks(127), 64);
        checks.rowIs(seven, 18, 18, 18, 10, 0, 0, 0);
        is("walks(120)", seven.walks(120), 64);
        checks.rowIs(seven, 0, 0, 0, 18, 18, 18, 10);
        VotingFloor mixed = placed("1+1;2+1;3+1", -1, -1, -1);
        // 7 are wanted: by 3 in three, as 1 and 3 and 3, or 2 and 2 and 3
        is("walks(7)", mixed.walks(7), 3);
        checks.rowIs(mixed, 1, 0, 2);
        // 36 are wanted: the first one may go on by 2, the next one by 3; by all of these the rest is just done
        VotingFloor five = placed("4+1;4+1;1+1;3+1;9-1", 7, 6, 5, 4, -8);
        five.sacks(4, 4);
        is("walks(15)", five.walks(15), 11);
        checks.rowIs(five, 2, 3, 1, 5, 0);
        VotingFloor off = placed("5+1;1+1;9+1", -1, 0, -9);
        off.steps(2);
        is("walks(2), PEOPLE who are OFF have 0", off.walks(2), 6);
        checks.rowIs(off, 0, 6, 0);
    }

    private static void wall() {
        checks.about("24: -2: by none");
        nothingOfNobody("wall()", VotingFloor::wall);
        checks.about("24: none, when it is CARRIED");
        VotingFloor carried = placed("1+1;1+1", 1, 0);
        is("wall()", carried.wall(), 0);
        checks.rowIs(carried, 0);
        checks.about("24: one, when it is LEVEL");
        VotingFloor level = withPeople("1+1;1+1");
        is("wall()", level.wall(), 1);
        checks.rowIs(level, 1);
        checks.about("24: all of them");
        VotingFloor all = placed("1+1;1+1", -9, -9);
        is("wall(), two at the other wall", all.wall(), 2);
        checks.rowIs(all, 3);
        checks.about("24: bits: of as few the least");
        VotingFloor six = heaviest(-9);
        is("wall(), seven", six.wall(), 4);
        checks.rowIs(six, 15);
        six.steps(0);
        is("wall(), six: by three it is LEVEL", six.wall(), 4);
        checks.rowIs(six, 30);
        checks.about("24: who are not OFF");
        VotingFloor off = placed("9+1;1+1;2+1", 0, -1, -1);
        off.steps(0);
        is("wall()", off.wall(), 1);
        checks.rowIs(off, 2);
    }

    private static void bears() {
        checks.about("25: NONE: none such");
        edges.refused("bears(-1)", -1, floor -> floor.bears(-1));
        edges.refused("bears(3)", -1, floor -> floor.bears(3));
        edges.refused(QuestionEdgeTests::nobody, "bears(0), nobody", -1, floor -> floor.bears(0));
        for (int wild : Edges.WILD) {
            edges.refused("bears(" + wild + ")", -1, floor -> floor.bears(wild));
        }
        checks.about("25: the least SACK (0 .. 9)");
        int[][] dues = {{1, 0, 2001}, {2, 1, 2001}, {9, 8, 2001}, {10, 9, 2001}};
        for (int[] due : dues) {
            VotingFloor floor = bearing(due[0]);
            is("bears(0) against " + due[0], floor.bears(0), due[1]);
            checks.rowIs(floor, due[2]);
        }
        checks.about("25: -2: by none");
        edges.refused(() -> bearing(11), "bears(0): by 9 it is LEVEL", -2, floor -> floor.bears(0));
        edges.refused(() -> withPeople("1+1"), "bears(0), on the pin", -2, floor -> floor.bears(0));
        edges.refused(() -> placed("1+1", -1), "bears(0), in the west", -2, floor -> floor.bears(0));
        edges.refused(QuestionEdgeTests::allOff, "bears(0), all OFF", -2, floor -> floor.bears(0));
        checks.about("25: instead of his");
        VotingFloor his = placed("5+1;4-1", -1, 2);
        his.sacks(0, 9);
        is("bears(0), less than his", his.bears(0), 0);
        checks.rowIs(his, 2003);
        is("one(0, 3)", his.one(0, 3), 9);
    }

    /** One of WEIGHT 1 on 1, and another one whose LOAD is one less than so much on -1. */
    private static VotingFloor bearing(int more) {
        VotingFloor floor = placed("1+1;1+1", 1, 0);
        int other = more - 1;
        if (other > 0) {
            floor.leads(1, -1);
            floor.sacks(1, Math.min(9, other - 1));
        }
        return floor;
    }

    private static void canvass() {
        checks.about("26: -2: by none");
        nothingOfNobody("canvass()", VotingFloor::canvass);
        edges.refused(() -> withPeople("9+0;9-0"), "canvass(), nobody wishes", -2, VotingFloor::canvass);
        checks.about("26: none, when it is above 0");
        VotingFloor above = withPeople("1+1;9+0");
        is("canvass()", above.canvass(), 0);
        checks.rowIs(above, 0);
        checks.about("26: 0 is not above 0");
        VotingFloor level = withPeople("1+1;1-1");
        is("canvass()", level.canvass(), 1);
        checks.rowIs(level, 2);
        VotingFloor half = withPeople("2-3;3-2");
        is("canvass(), by one it is 0", half.canvass(), 2);
        checks.rowIs(half, 3);
        checks.about("26: bits: of as few the least");
        VotingFloor seven = withPeople("1-1;1-1;1-1;1-1;1-1;1-1;1-1");
        is("canvass(), seven", seven.canvass(), 4);
        checks.rowIs(seven, 15);
        checks.about("26: of all who are not OFF");
        VotingFloor off = withPeople("9+9;1-1;1-2");
        off.steps(0);
        is("canvass()", off.canvass(), 1);
        checks.rowIs(off, 4);
        checks.about("26: LOAD, with SACK");
        VotingFloor sack = withPeople("1+3;1-1");
        is("canvass()", sack.canvass(), 0);
        sack.sacks(1, 2);
        is("canvass(), as much", sack.canvass(), 1);
        checks.rowIs(sack, 2);
    }

    private static void clears() {
        checks.about("27: none, when it is LEVEL");
        VotingFloor level = placed("3+1;2+1", 2, -3);
        is("clears()", level.clears(), 0);
        checks.rowIs(level, 0);
        VotingFloor nobody = new VotingFloor();
        is("clears(), nobody", nobody.clears(), 0);
        checks.rowIs(nobody, 0);
        VotingFloor off = allOff();
        is("clears(), all OFF", off.clears(), 0);
        checks.rowIs(off, 0);
        checks.about("27: all of them");
        VotingFloor all = heaviest(9);
        is("clears(), seven", all.clears(), 7);
        checks.rowIs(all, 127);
        VotingFloor pin = placed("1+1;1+1;1+1", 1, 0, 2);
        is("clears(), but who is on the pin", pin.clears(), 2);
        checks.rowIs(pin, 5);
        checks.about("27: bits: of as few the least");
        VotingFloor least = placed("1+1;1+1;1+1", -1, 1, 1);
        is("clears()", least.clears(), 1);
        checks.rowIs(least, 2);
        checks.about("27: who are not OFF");
        VotingFloor some = placed("1+1;1+1;1+1", 1, 1, -1);
        some.steps(0);
        is("clears()", some.clears(), 0);
        checks.rowIs(some, 0);
    }

    private static void heads() {
        checks.about("28: nobody, all OFF");
        VotingFloor nobody = new VotingFloor();
        is("heads(), nobody", nobody.heads(), 100);
        checks.rowIs(nobody, 1000, 1000, 10000);
        VotingFloor off = allOff();
        is("heads(), all OFF", off.heads(), 100);
        checks.rowIs(off, 1000, 1000, 10000);
        checks.about("28: all for it, all against it");
        VotingFloor all = heaviest(0);
        is("heads()", all.heads(), 107);
        checks.rowIs(all, 1126, 1063, 11134);
        VotingFloor against = withPeople("9-9;9-9;9-9;9-9;9-9;9-9;9-9");
        for (int i = 0; i < 7; i++) {
            against.sacks(i, 9);
        }
        is("heads()", against.heads(), 93);
        checks.rowIs(against, 874, 937, 8866);
        checks.about("28: neither");
        VotingFloor neither = withPeople("9+0;1-1;8-0");
        is("heads()", neither.heads(), 99);
        checks.rowIs(neither, 999, 999, 9999);
    }

    // ---- what somebody decides

    private static void power() {
        checks.about("29: NONE: none such");
        edges.refused("power(-1)", -1, floor -> floor.power(-1));
        edges.refused("power(3)", -1, floor -> floor.power(3));
        edges.refused(QuestionEdgeTests::nobody, "power(0), nobody", -1, floor -> floor.power(0));
        for (int wild : Edges.WILD) {
            edges.refused("power(" + wild + ")", -1, floor -> floor.power(wild));
        }
        checks.about("29: -2: he is OFF");
        edges.refused("power(2)", -2, floor -> floor.power(2));
        edges.refused(QuestionEdgeTests::allOff, "power(0), all OFF", -2, floor -> floor.power(0));
        checks.about("29: the fraction");
        fractionOfPower("1+1", 1, 1);
        fractionOfPower("1-1", 1, 1);
        fractionOfPower("9+0", 0, 1);
        fractionOfPower("2+1;1-2", 1, 2);
        fractionOfPower("1+1;9+9", 0, 1);
        fractionOfPower("9+9;1+1", 1, 1);
        fractionOfPower("1+1;9+0", 1, 1);
        fractionOfPower("1+1;1+1;1+1", 1, 2);
        fractionOfPower("9+9;9+9;9+9;9+9;9+9;9+9", 5, 16);
        fractionOfPower("9+9;9-9;9+9;9-9;9+9;9+9;9+9", 5, 16);
        checks.about("29: LEVEL is not CARRIED");
        // 2 against 1 and 1: with both others in the west it is LEVEL, with both in the east he may be in the west
        fractionOfPower("2+1;1+1;1+1", 3, 4);
        checks.about("29: wherever they stand now");
        VotingFloor far = placed("1+1;1+1", 9, 9);
        is("power(0)", far.power(0), 0);
        checks.rowIs(far, 1, 2);
        checks.about("29: all who are not OFF");
        VotingFloor off = withPeople("1+1;9+9");
        off.steps(1);
        is("power(0)", off.power(0), 0);
        checks.rowIs(off, 1, 1);
    }

    private static void fractionOfPower(String lines, int upper, int lower) {
        VotingFloor floor = withPeople(lines);
        is("power(0) of " + lines, floor.power(0), 0);
        checks.rowIs(floor, upper, lower);
    }

    private static void strongest() {
        checks.about("30: -2: all are OFF (no PEOPLE, too)");
        nothingOfNobody("strongest()", VotingFloor::strongest);
        checks.about("30: of equal ones the first");
        VotingFloor seven = heaviest(0);
        is("strongest(), seven", seven.strongest(), 0);
        checks.rowIs(seven, 20, 140);
        seven.steps(0);
        is("strongest(), six", seven.strongest(), 1);
        checks.rowIs(seven, 10, 60);
        checks.about("30: one alone");
        VotingFloor alone = withPeople("1-1");
        is("strongest()", alone.strongest(), 0);
        checks.rowIs(alone, 1, 1);
        checks.about("30: nobody wishes");
        VotingFloor none = withPeople("9+0;9+0");
        is("strongest()", none.strongest(), 0);
        checks.rowIs(none, 0, 0);
        checks.about("30: the last one");
        VotingFloor last = withPeople("1+1;1+1;1+9");
        is("strongest()", last.strongest(), 2);
        checks.rowIs(last, 4, 4);
    }

    private static void just() {
        checks.about("31: NONE: another v");
        edges.refused("just(-1)", -1, floor -> floor.just(-1));
        edges.refused("just(100)", -1, floor -> floor.just(100));
        for (int wild : Edges.WILD) {
            edges.refused("just(" + wild + ")", -1, floor -> floor.just(wild));
        }
        checks.about("31: just v (0 .. 99)");
        VotingFloor nothing = withPeople("1+1;1+1");
        is("just(0)", nothing.just(0), 0);
        checks.rowIs(nothing, 0, 1);
        VotingFloor most = withPeople(ALIKE);
        for (int i = 0; i < 5; i++) {
            most.sacks(i, 9);
        }
        is("just(99): five of 18, one of 9", most.just(99), 6);
        checks.rowIs(most, 63, 2);
        checks.about("31: nobody, all OFF");
        VotingFloor nobody = new VotingFloor();
        is("just(0), nobody", nobody.just(0), 0);
        checks.rowIs(nobody, 0, 1);
        VotingFloor off = allOff();
        is("just(0), all OFF", off.just(0), 0);
        checks.rowIs(off, 0, 1);
        checks.about("31: -2: none");
        nothingOfNobody("just(5)", floor -> floor.just(5));
        edges.refused("just(99)", -2, floor -> floor.just(99));
        edges.refused(() -> withPeople("2+1;4+1"), "just(5)", -2, floor -> floor.just(5));
        edges.refused(() -> withPeople("2+1;4+1"), "just(7)", -2, floor -> floor.just(7));
        checks.about("31: bits: of as few the least; how many sets do");
        VotingFloor sets = withPeople("1+1;1+1;2+1;2+1");
        is("just(2)", sets.just(2), 1);
        checks.rowIs(sets, 4, 3);
        is("just(3)", sets.just(3), 2);
        checks.rowIs(sets, 5, 4);
        is("just(6), all", sets.just(6), 4);
        checks.rowIs(sets, 15, 1);
    }

    // ---- who stands where

    private static void farthest() {
        checks.about("32: -2: all are OFF");
        nothingOfNobody("farthest()", VotingFloor::farthest);
        checks.about("32: on the pin");
        VotingFloor pin = withPeople(Edges.SEVEN);
        is("farthest()", pin.farthest(), 0);
        checks.rowIs(pin, 0, 7);
        checks.about("32: of equal ones the first, in the east or in the west");
        VotingFloor west = placed("1+1;1+1;1+1", 8, -9, 9);
        is("farthest()", west.farthest(), 1);
        checks.rowIs(west, 9, 2);
        VotingFloor east = placed("1+1;1+1;1+1;1+1", 9, -9, 9, 8);
        is("farthest()", east.farthest(), 0);
        checks.rowIs(east, 9, 3);
        checks.about("32: who is not OFF");
        VotingFloor off = placed("1+1;1+1", 9, -1);
        off.steps(0);
        is("farthest()", off.farthest(), 1);
        checks.rowIs(off, 1, 1);
        checks.about("32: how many stand as far, and are not OFF");
        VotingFloor asFar = placed("1+1;1+1;1+1;1+1", 5, -5, 5, -5);
        asFar.steps(2);
        is("farthest()", asFar.farthest(), 0);
        checks.rowIs(asFar, 5, 3);
        asFar.steps(0);
        is("farthest(), the first one OFF", asFar.farthest(), 1);
        checks.rowIs(asFar, 5, 2);
        asFar.steps(3);
        is("farthest(), one is left", asFar.farthest(), 1);
        checks.rowIs(asFar, 5, 1);
    }

    private static void line() {
        checks.about("33: nobody, all OFF");
        VotingFloor nobody = nobody();
        is("line(), nobody", nobody.line(), 0);
        checks.rowIs(nobody);
        VotingFloor off = allOff();
        is("line(), all OFF", off.line(), 0);
        checks.rowIs(off);
        checks.about("33: of like ones by their numbers");
        VotingFloor pin = withPeople(Edges.SEVEN);
        is("line(), all on the pin", pin.line(), 7);
        checks.rowIs(pin, 0, 1, 2, 3, 4, 5, 6);
        VotingFloor back = placed(Edges.SEVEN, 9, 6, 3, 0, -3, -6, -9);
        is("line()", back.line(), 7);
        checks.rowIs(back, 6, 5, 4, 3, 2, 1, 0);
        checks.about("33: who are not OFF");
        back.steps(6);
        back.steps(3);
        is("line()", back.line(), 5);
        checks.rowIs(back, 5, 4, 2, 1, 0);
    }

    private static void backs() {
        checks.about("34: nothing without");
        VotingFloor nobody = nobody();
        is("backs(), nobody", nobody.backs(), 0);
        checks.rowIs(nobody);
        VotingFloor one = placed("1+1", 9);
        one.fits();
        is("backs(), one alone", one.backs(), 0);
        checks.rowIs(one);
        checks.about("34: not on it");
        VotingFloor pin = withPeople("1+1;1+1");
        is("backs()", pin.backs(), 0);
        checks.rowIs(pin);
        checks.about("34: in the east and in the west");
        VotingFloor east = placed("1+1;1+1", 9, 9);
        is("backs()", east.backs(), 0);
        checks.rowIs(east);
        VotingFloor walls = placed("1+1;1+1", -9, 9);
        is("backs()", walls.backs(), 1);
        checks.rowIs(walls, 0, 1);
        checks.about("34: as far from the pin, with the same LOAD");
        is("backs(), not as far", placed("1+1;1+1", -9, 8).backs(), 0);
        is("backs(), another LOAD", placed("1+1;2+1", -9, 9).backs(), 0);
        VotingFloor sack = placed("1+1;2+1", -9, 9);
        sack.sacks(0, 1);
        is("backs(), by a sack", sack.backs(), 1);
        checks.about("34: who are not OFF");
        VotingFloor off = placed("1+1;1+1", -9, 9);
        off.steps(1);
        is("backs()", off.backs(), 0);
        checks.rowIs(off);
        checks.about("34: the least pair (the lesser first)");
        VotingFloor seven = placed(ALIKE, 0, 4, 4, -4, 4, -4, -4);
        is("backs(), seven", seven.backs(), 9);
        checks.rowIs(seven, 1, 3);
        VotingFloor least = placed("1+1;2+1;2+1;1+1", 1, 2, -2, -1);
        is("backs()", least.backs(), 2);
        checks.rowIs(least, 0, 3);
    }

    private static void crowd() {
        checks.about("35: 0: none; nothing more without");
        VotingFloor nobody = nobody();
        is("crowd(), nobody", nobody.crowd(), 0);
        checks.rowIs(nobody);
        VotingFloor off = allOff();
        is("crowd(), all OFF", off.crowd(), 0);
        checks.rowIs(off);
        checks.about("35: of as many the least");
        VotingFloor walls = placed("1+1;1+1", 9, -9);
        is("crowd()", walls.crowd(), 1);
        checks.rowIs(walls, 91, 2);
        VotingFloor pairs = placed("1+1;1+1;1+1;1+1;1+1", 9, 0, 9, 0, -9);
        is("crowd()", pairs.crowd(), 2);
        checks.rowIs(pairs, 100, 10);
        checks.about("35: the most PEOPLE");
        VotingFloor seven = heaviest(9);
        is("crowd()", seven.crowd(), 7);
        checks.rowIs(seven, 109, 127);
        checks.about("35: who are not OFF");
        seven.leads(0, -9);
        for (int i = 1; i < 6; i++) {
            seven.steps(i);
        }
        is("crowd()", seven.crowd(), 1);
        checks.rowIs(seven, 91, 1);
    }
}
