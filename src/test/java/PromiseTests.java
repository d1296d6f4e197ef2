/** One method or more for each promise of the document, with answers worked out by hand. */
public final class PromiseTests {
    private static final Checks checks = new Checks();

    public static void main(String[] args) {
        peopleAndTexts();
        whatIsDone();
        howItTips();
        soThatItIsCarried();
        whatSomebodyDecides();
        whoStandsWhere();
        howMuchOneCares();
        whichOneItWas();
        faintsAndPlank();
        lawsCrossingsYears();
        kept();
        checks.finish();
    }

    private static VotingFloor tell(VotingFloor floor, String text) {
        return Checks.tell(floor, text);
    }

    private static VotingFloor withPeople(String lines) {
        return Checks.withPeople(lines);
    }

    private static VotingFloor placed(String lines, int... places) {
        return Checks.placed(lines, places);
    }

    private static void is(String call, long got, long due) {
        checks.is(call, got, due);
    }

    private static void is(String call, boolean got, boolean due) {
        checks.is(call, got, due);
    }

    // ---- people

    private static void peopleAndTexts() {
        newObject();
        signs();
        ends();
        peopleCome();
        peopleCantStand();
        peopleWithoutRoom();
        rulesStand();
        rulesCantStand();
        rulesWalk();
        ones();
        sheets();
    }

    private static void newObject() {
        checks.about("promise 1");
        VotingFloor floor = new VotingFloor();
        is("NONE", VotingFloor.NONE, -1);
        int[] due = {0, 0, 0, 12, 2000, 0, 0, 0, 0, 0, 0};
        for (int what = 0; what < due.length; what++) {
            is("count(" + what + ")", floor.count(what), due[what]);
        }
        checks.rowIs(floor);
        checks.throwsAtOne(floor, 0, 0);
    }

    private static void signs() {
        checks.about("promise 2");
        VotingFloor floor = new VotingFloor();
        for (int k = 1; k <= 20; k++) {
            is("sign", floor.sign(0x352B333B), 4 * k);
        }
        is("sign, the 81st", floor.sign(0), -1);
        is("count(10)", floor.count(10), 80);
        floor.end(77);
        is("sign at 77", floor.sign(0), -1);
        is("count(10)", floor.count(10), 77);
        floor.end(76);
        is("sign at 76", floor.sign(0), 80);
        floor.end(3);
        is("people(), highest byte first", floor.people(), 1);
        is("weight", floor.one(0, 0), 5);
        is("wish", floor.one(0, 1), 3);
        VotingFloor high = new VotingFloor();
        high.sign(0xFF000000);
        high.end(1);
        is("people() of sign 255", high.people(), -1);
    }

    private static void ends() {
        checks.about("promise 3");
        VotingFloor floor = new VotingFloor();
        floor.sign(0);
        is("end(-1)", floor.end(-1), false);
        is("end(5)", floor.end(5), false);
        is("end(MAX)", floor.end(Integer.MAX_VALUE), false);
        is("end(4)", floor.end(4), true);
        is("count(10)", floor.count(10), 4);
        is("end(2)", floor.end(2), true);
        is("end(3)", floor.end(3), false);
        is("end(0)", floor.end(0), true);
        is("count(10)", floor.count(10), 0);
    }

    private static void peopleCome() {
        checks.about("promise 4");
        VotingFloor floor = withPeople("5+3;2-9");
        is("count(0)", floor.count(0), 2);
        is("count(10)", floor.count(10), 0);
        floor.leads(0, 4);
        is("people()", tell(floor, "9-0").people(), 1);
        is("count(0)", floor.count(0), 3);
        is("one(1, 0)", floor.one(1, 0), 2);
        is("one(1, 1)", floor.one(1, 1), -9);
        is("one(2, 0)", floor.one(2, 0), 9);
        is("one(2, 1)", floor.one(2, 1), 0);
        is("one(2, 2)", floor.one(2, 2), 0);
        is("one(2, 4)", floor.one(2, 4), 0);
        is("one(0, 2)", floor.one(0, 2), 4);
        is("people() of nothing", tell(floor, "").people(), 0);
        VotingFloor full = withPeople("1+1;2+2;3+3;4+4;5+5;6+6;7+7");
        is("seven", full.count(0), 7);
        is("one(6, 1)", full.one(6, 1), 7);
    }

    private static void peopleCantStand() {
        checks.about("promise 4, can't stand");
        Object[][] bad = {
            {"x", 0}, {"0", 0}, {"0+1", 0}, {"+", 0}, {";", 0}, {"5", 1}, {"5x", 1}, {"55", 1}, {"5+", 2},
            {"5+x", 2}, {"5++", 2}, {"5+3x", 3}, {"5+33", 3}, {"5+3;", 4}, {"5+3;;", 4}, {"5+3;0", 4},
            {"5+3;1", 5}, {"5+3;1+1 ", 7}, {" 5+3", 0}, {"5+3;1+1;1+1;1+1;1+1;1+1;1+1;", 27},
            {"5+3;1+1;1+1;1+1;1+1;1+1;1+1x", 27}, {"5+3;1+1;1+1;1+1;1+1;1+1;1+x;1+1", 26},
            {"5+3;1+1;1+1;1+1;1+1;1+1;1+1;1+1;1+1", 27}, {"5+3;1+1;1+1;1+1;1+1;1+1;1+", 26},
        };
        for (Object[] one : bad) {
            VotingFloor floor = new VotingFloor();
            is("people() of " + one[0], tell(floor, (String) one[0]).people(), -1 - (Integer) one[1]);
            is("count(0)", floor.count(0), 0);
            is("count(10)", floor.count(10), 0);
        }
    }

    private static void peopleWithoutRoom() {
        checks.about("promise 4, no room");
        VotingFloor floor = withPeople("1+1;1+1;1+1;1+1;1+1");
        floor.noon(20);
        floor.keep(0);
        is("three more", tell(floor, "1+1;1+1;1+1").people(), -9);
        is("no room ahead of what can't stand", tell(floor, "1+1;1+1;1+x").people(), -9);
        is("what can't stand ahead of no room", tell(floor, "1+1;1+x;1+1").people(), -7);
        is("count(0)", floor.count(0), 5);
        is("count(8)", floor.count(8), 1);
        is("again(0)", floor.again(0), true);
        is("two more", tell(floor, "1+1;1+1").people(), 2);
        is("none has room", tell(floor, "1+1").people(), -1);
        is("none has room for what can't stand", tell(floor, "x").people(), -1);
        is("nothing has room", tell(floor, "").people(), 0);
    }

    private static void rulesStand() {
        checks.about("promise 5");
        String[] good = {
            "", "c", "7", "007", "999", "--c", "c--p", "(c)", "((((c))))", "c<p", "(c<p)<w", "c<(p<w)",
            "c+p-w*m/q", "-(i)", "c*-n", "(c<p)+(c>p)-(c=p)", "c<p+(w<m)", "((((c))))+((((p))))",
            "1234567890".substring(0, 3), "c+p+w+m+q+i+n+c+p+w+m+q+i+n+c+p+w+m+q+12",
        };
        for (String text : good) {
            VotingFloor floor = withPeople("5+3");
            is("rule() of " + text, tell(floor, text).rule(), 0);
            is("count(10)", floor.count(10), 0);
        }
    }

    private static void rulesCantStand() {
        checks.about("promise 5, can't stand");
        String forty = "c+p+w+m+q+i+n+c+p+w+m+q+i+n+c+p+w+m+q+12";
        Object[][] bad = {
            {"z", 0}, {" c", 0}, {"C", 0}, {"+c", 0}, {"*", 0}, {")", 0}, {"()", 1}, {"~c", 0}, {"c~p", 1},
            {"c+", 2}, {"-", 1}, {"c c", 1}, {"cp", 1}, {"c1", 1}, {"1c", 1}, {"1234", 3}, {"c+1234", 5},
            {"(c", 2}, {"(c))", 3}, {"c)", 1}, {"c(", 1}, {"(c)(p)", 3}, {"(c)1", 3}, {"c<p<w", 3},
            {"c<p=w", 3}, {"c<p+w>1", 5}, {"(c<p<w)", 4}, {"c<(p)=w", 5}, {"(((((c)))))", 4}, {"c<", 2},
            {"c<*", 2}, {"c*+p", 2}, {"c//p", 2}, {forty + "3", 40}, {forty + "+", 40}, {forty + "x", 40},
            {forty.substring(0, 38) + "(c)", 40}, {forty.substring(0, 39) + "x3", 39},
            {forty.substring(0, 38), 38}, {"(c<p)<w<q", 7}, {"((c<p)<w)<(c=p)<n", 15},
        };
        for (Object[] one : bad) {
            VotingFloor floor = withPeople("5+3");
            tell(floor, "0-1").rule();
            is("rule() of " + one[0], tell(floor, (String) one[0]).rule(), -1 - (Integer) one[1]);
            is("one(0, 5) by the rule that was", floor.one(0, 5), -1);
            is("count(10)", floor.count(10), 0);
        }
    }

    private static void rulesWalk() {
        checks.about("terms, THE RULE");
        // WEIGHT 5 SACK 2 WISH 3 PLACE 4; another of WEIGHT 1 on the same PLACE: MOMENT 32; MINUTE 9: n is 2
        Object[][] due = {
            {"c-3", 0}, {"c-2", 1}, {"c-4", -1}, {"p-4", 0}, {"w-7", 0}, {"m-32", 0}, {"q-1", 0}, {"i", 0},
            {"n-2", 0}, {"2+3*4-14", 0}, {"(2+3)*4-20", 0}, {"10-3-2-5", 0}, {"100/10/5-2", 0},
            {"7/2-3", 0}, {"-7/2+3", 0}, {"7/-2+3", 0}, {"5/0", 0}, {"5/(c-c)+1", 1}, {"--3-3", 0},
            {"---3+3", 0}, {"2--3-5", 0}, {"(3>2)-1", 0}, {"(2>3)", 0}, {"(3<2)", 0}, {"(2<3)-1", 0},
            {"(3=3)-1", 0}, {"3=4", 0}, {"1+2<4-1", 0}, {"1+2=4-1", 1}, {"2*3=6", 1}, {"0-(1<2)", -1},
            {"-1*2+2", 0}, {"-c*2+6", 0}, {"999*999*999*999", -1}, {"999*999*999*3", -1}, {"8/3*3-6", 0},
            {"2-3*4/5", 0},
        };
        for (Object[] one : due) {
            VotingFloor floor = withPeople("5+3;1+4");
            floor.minutes(9);
            floor.leads(0, 4);
            floor.sacks(0, 2);
            floor.leads(1, 4);
            tell(floor, (String) one[0]).rule();
            is("one(0, 5) by " + one[0], floor.one(0, 5), (Integer) one[1]);
        }
        VotingFloor floor = withPeople("5+3;1+4;1+4");
        is("rule() of 39 minus", tell(floor, "-".repeat(39) + "1").rule(), 0);
        is("one(0, 5) by 39 minus", floor.one(0, 5), -1);
        is("rule() of 38 minus", tell(floor, "-".repeat(38) + "1").rule(), 0);
        is("one(0, 5) by 38 minus", floor.one(0, 5), 1);
        is("rule() of 40 minus", tell(floor, "-".repeat(40)).rule(), -41);
        tell(floor, "i-1").rule();
        is("one(0, 5) by i-1", floor.one(0, 5), -1);
        is("one(2, 5) by i-1", floor.one(2, 5), 1);
        floor.steps(2);
        tell(floor, "q-1").rule();
        is("one(0, 5) by q-1, one is OFF", floor.one(0, 5), 0);
        tell(floor, "").rule();
        is("one(0, 5) by none", floor.one(0, 5), 1);
    }

    private static void ones() {
        checks.about("promise 6");
        VotingFloor floor = placed("5+3;2-9", 9, -9);
        floor.sacks(1, 6);
        floor.steps(1);
        int[] due = {2, -9, -9, 6, 1, 0};
        for (int what = 0; what < due.length; what++) {
            is("one(1, " + what + ")", floor.one(1, what), due[what]);
        }
        is("one(0, 4)", floor.one(0, 4), 0);
        is("one(0, 5), back from the wall", floor.one(0, 5), -1);
        tell(floor, "1").rule();
        is("one(0, 5) at that wall", floor.one(0, 5), 0);
        floor.steps(1);
        is("one(1, 5)", floor.one(1, 5), 1);
        tell(floor, "-1").rule();
        is("one(1, 5) at that wall", floor.one(1, 5), 0);
        checks.throwsAtOne(floor, 2, 0);
        checks.throwsAtOne(floor, -1, 0);
        checks.throwsAtOne(floor, 0, 6);
        checks.throwsAtOne(floor, 0, -1);
        checks.throwsAtOne(floor, Integer.MIN_VALUE, 0);
    }

    private static void sheets() {
        checks.about("promise 7");
        VotingFloor floor = withPeople("5+3;2-9;4+1");
        is("sheet(4, ..)", floor.sheet(4, 0, 0, 0), -1);
        is("sheet(-1, -1, ..)", floor.sheet(-1, -1, 0, 0), -1);
        is("sheet(0, 8, ..)", floor.sheet(0, 8, 0, 0), -1);
        is("sheet(3, 8, ..)", floor.sheet(3, 8, 0, 0), -1);
        is("sheet(0, -1, ..)", floor.sheet(0, -1, 0, 0), -2);
        is("one(0, 0)", floor.one(0, 0), 5);
        is("sheet(2, 2, 3, 4)", floor.sheet(2, 2, 3, 4), 3 + 7 + 1);
        is("one(1, 0)", floor.one(1, 0), 7);
        is("one(2, 0)", floor.one(2, 0), 1);
        is("sheet(2, 7, 3, 4): more than PEOPLE", floor.sheet(2, 7, 3, 4), 3 + 7 + 9);
        is("sheet(0, 3, 257, 255): bytes", floor.sheet(0, 3, 257, 255), 1 + 1 + 1);
        is("sheet(0, 3, 250, 5): -6, -1, 4", floor.sheet(0, 3, 250, 5), 1 + 1 + 4);
        is("sheet(0, 3, 130, 100): -126, -26, 74", floor.sheet(0, 3, 130, 100), 1 + 1 + 9);
        is("sheet(1, 3, 65535, 4): -1, 3, 7", floor.sheet(1, 3, 65535, 4), 1 + 3 + 7);
        is("sheet(1, 3, 260, 1)", floor.sheet(1, 3, 260, 1), 27);
        is("sheet(2, 3, 65538, 1)", floor.sheet(2, 3, 65538, 1), 27);
        is("sheet(2, 3, MAX, 1)", floor.sheet(2, 3, Integer.MAX_VALUE, 1), 9 + 1 + 1);
        is("sheet(1, 0, ..)", floor.sheet(1, 0, 5, 5), 3);
        floor.sheet(2, 3, 5, 0);
        is("sheet(3, -5, ..)", floor.sheet(3, -5, 0, 0), -3);
        is("one(0, 0)", floor.one(0, 0), 1);
        is("one(2, 0)", floor.one(2, 0), 1);
        is("count(8)", floor.count(8), 0);
    }

    // ---- minutes, what is done

    private static void whatIsDone() {
        minutesGoBy();
        leading();
        sacking();
        stepping();
        turning();
        noons();
        mornings();
        morningsCantStand();
        undoing();
    }

    private static void minutesGoBy() {
        checks.about("promise 8");
        VotingFloor floor = withPeople("5+3;2-9;4+1");
        is("minutes(-1)", floor.minutes(-1), -1);
        is("minutes(61)", floor.minutes(61), -1);
        checks.rowIs(floor);
        is("minutes(3)", floor.minutes(3), 2000 + 15 - 6 + 4);
        checks.rowIs(floor, 7, 0, 0);
        is("minutes(0)", floor.minutes(0), 2013);
        checks.rowIs(floor, 0, 0, 0);
        is("minutes(60)", floor.minutes(60), 2000 + 15 - 18 + 4);
        checks.rowIs(floor, 6, 0, 1);
        is("count(2)", floor.count(2), 63);
        VotingFloor all = withPeople("1+1;1+1;1+1");
        tell(all, "1").rule();
        all.steps(2);
        is("minutes(10)", all.minutes(10), 2018);
        checks.rowIs(all, 18, 2, 0);
        // all walk as it is ahead of the minute: by MOMENT 1 each goes to the east, then by 3 again
        VotingFloor together = placed("1+0;1+0", 1);
        tell(together, "m-2").rule();
        is("minutes(1)", together.minutes(1), 2000 + 0 - 1);
        VotingFloor byMinute = withPeople("1+0");
        tell(byMinute, "n=3").rule();
        is("minutes(3)", byMinute.minutes(3), 2000);
        is("minutes(1)", byMinute.minutes(1), 2001);
        is("minutes(6)", byMinute.minutes(6), 2001);
        is("minutes(1)", byMinute.minutes(1), 2002);
    }

    private static void leading() {
        checks.about("promise 9");
        VotingFloor floor = withPeople("5+3;2-9");
        is("leads(2, 1)", floor.leads(2, 1), -1);
        is("leads(-1, 1)", floor.leads(-1, 1), -1);
        is("leads(0, 10)", floor.leads(0, 10), -1);
        is("leads(0, -10)", floor.leads(0, -10), -1);
        is("leads(0, 0)", floor.leads(0, 0), -2);
        is("leads(0, 9)", floor.leads(0, 9), 9);
        is("leads(0, -9)", floor.leads(0, -9), 18);
        is("leads(0, -9)", floor.leads(0, -9), -2);
        floor.steps(1);
        is("leads(1, 4), OFF", floor.leads(1, 4), 4);
        is("one(1, 2)", floor.one(1, 2), 4);
        is("count(4)", floor.count(4), 2000 - 45);
        is("count(8)", floor.count(8), 4);
    }

    private static void sacking() {
        checks.about("promise 10");
        VotingFloor floor = placed("5+3;2-9", 1);
        is("sacks(2, 1)", floor.sacks(2, 1), -1);
        is("sacks(-1, 1)", floor.sacks(-1, 1), -1);
        is("sacks(0, 10)", floor.sacks(0, 10), -1);
        is("sacks(0, -1)", floor.sacks(0, -1), -1);
        is("sacks(0, 0)", floor.sacks(0, 0), -2);
        is("sacks(0, 9)", floor.sacks(0, 9), 0);
        is("sacks(0, 4)", floor.sacks(0, 4), 9);
        is("count(4)", floor.count(4), 2009);
        is("count(8)", floor.count(8), 3);
    }

    private static void stepping() {
        checks.about("promise 11");
        VotingFloor floor = placed("5+3;2-9", 1);
        is("steps(2)", floor.steps(2), -1);
        is("steps(-1)", floor.steps(-1), -1);
        is("steps(0)", floor.steps(0), 1);
        is("count(4)", floor.count(4), 2000);
        is("steps(1)", floor.steps(1), 0);
        floor.minutes(2);
        is("one(0, 2): OFF he does not walk", floor.one(0, 2), 1);
        is("steps(0)", floor.steps(0), 1);
        is("count(4)", floor.count(4), 2005);
        is("count(1)", floor.count(1), 1);
    }

    private static void turning() {
        checks.about("promise 12");
        VotingFloor floor = withPeople("5+3;2-9");
        is("turnsTo(2, 1)", floor.turnsTo(2, 1), -1);
        is("turnsTo(-1, 1)", floor.turnsTo(-1, 1), -1);
        is("turnsTo(0, 10)", floor.turnsTo(0, 10), -1);
        is("turnsTo(0, -10)", floor.turnsTo(0, -10), -1);
        is("turnsTo(0, 3)", floor.turnsTo(0, 3), -2);
        is("turnsTo(1, 9)", floor.turnsTo(1, 9), 91);
        is("turnsTo(1, -9)", floor.turnsTo(1, -9), 109);
        is("one(1, 1)", floor.one(1, 1), -9);
    }

    private static void noons() {
        checks.about("promise 13");
        VotingFloor floor = new VotingFloor();
        is("noon(0)", floor.noon(0), -1);
        is("noon(61)", floor.noon(61), -1);
        is("noon(12)", floor.noon(12), -2);
        is("noon(60)", floor.noon(60), 12);
        is("noon(1)", floor.noon(1), 60);
        is("count(3)", floor.count(3), 1);
        is("count(8)", floor.count(8), 2);
    }

    private static void mornings() {
        checks.about("promise 14");
        VotingFloor floor = withPeople("5+3;2-9");
        is("morning()", tell(floor, "n2l0w4s13o1o1t1+5l0e0").morning(), 7);
        checks.rowIs(floor, 0, 2000 - 10);
        is("one(0, 2)", floor.one(0, 2), 0);
        is("one(1, 2)", floor.one(1, 2), -2);
        is("one(1, 3)", floor.one(1, 3), 3);
        is("one(1, 1)", floor.one(1, 1), 5);
        is("count(2)", floor.count(2), 2);
        is("count(8)", floor.count(8), 1);
        is("count(10)", floor.count(10), 0);
        is("till one is refused", tell(floor, "s05s05o0").morning(), 1);
        checks.rowIs(floor, 1, 1990);
        is("count(1)", floor.count(1), 3);
        is("refused by none such", tell(floor, "o7n1").morning(), 0);
        checks.rowIs(floor, 1, 1990);
        is("count(8)", floor.count(8), 2);
        is("n0 is done", tell(floor, "n0").morning(), 1);
        checks.rowIs(floor, 0, 1990);
        is("count(8)", floor.count(8), 3);
        is("t to the same", tell(floor, "t1+5").morning(), 0);
        checks.rowIs(floor, 1, 1990);
        is("nothing", tell(floor, "").morning(), 0);
        checks.rowIs(floor, 0, 1990);
        is("count(8)", floor.count(8), 3);
        String sixty = "n1".repeat(30);
        is("sixty signs", tell(floor, sixty).morning(), 30);
        is("count(2)", floor.count(2), 32);
        is("undo()", floor.undo(), 3);
        is("count(2)", floor.count(2), 2);
        is("t1-0", tell(floor, "t1-0").morning(), 1);
        is("one(1, 1)", floor.one(1, 1), 0);
    }

    private static void morningsCantStand() {
        checks.about("promise 14, can't stand");
        String sixty = "n1".repeat(30);
        Object[][] bad = {
            {"x", 0}, {"n", 1}, {"nn", 1}, {"n1x", 2}, {"n12", 2}, {"l", 1}, {"l0", 2}, {"l0e", 3}, {"l0x", 2},
            {"l0+", 2}, {"l0ee", 3}, {"lx", 1}, {"s", 1}, {"s1", 2}, {"s1x", 2}, {"s123", 3}, {"o", 1}, {"ox", 1},
            {"o11", 2}, {"t1e", 2}, {"t1", 2}, {"t1+", 3}, {"t1+x", 3}, {"t1-55", 4}, {"n1 n1", 2}, {"N1", 0},
            {sixty + "n1", 60}, {sixty + "x", 60}, {sixty.substring(0, 59) + "x1", 59}, {sixty.substring(0, 59), 59},
            {"o0" + "s11".repeat(19) + "n1", 60}, {"o0" + "s11".repeat(19) + "n", 60},
            {"o0" + "n1".repeat(28) + "l1e1", 60},
        };
        for (Object[] one : bad) {
            VotingFloor floor = withPeople("5+3;2-9");
            floor.tips();
            is("morning() of " + one[0], tell(floor, (String) one[0]).morning(), -1 - (Integer) one[1]);
            is("count(2)", floor.count(2), 0);
            is("count(8)", floor.count(8), 0);
            is("count(9): the ROW as it was", floor.count(9), 3);
            is("count(10)", floor.count(10), 0);
        }
    }

    private static void undoing() {
        checks.about("promise 15");
        VotingFloor floor = withPeople("5+3;2-9");
        is("undo()", floor.undo(), -1);
        floor.minutes(2);
        floor.leads(0, -4);
        floor.sacks(0, 3);
        floor.steps(1);
        floor.turnsTo(1, 1);
        floor.noon(30);
        floor.sheet(2, 2, 7, 1);
        is("undo() of noon()", floor.undo(), 5);
        is("count(3)", floor.count(3), 12);
        is("undo() of turnsTo()", floor.undo(), 4);
        is("one(1, 1)", floor.one(1, 1), -9);
        is("undo() of steps()", floor.undo(), 3);
        is("count(1)", floor.count(1), 3);
        is("undo() of sacks()", floor.undo(), 2);
        is("one(0, 3)", floor.one(0, 3), 0);
        is("undo() of leads()", floor.undo(), 1);
        is("one(0, 2)", floor.one(0, 2), 2);
        is("undo() of minutes()", floor.undo(), 0);
        is("one(0, 2)", floor.one(0, 2), 0);
        is("count(2)", floor.count(2), 0);
        is("one(0, 0): not WEIGHT", floor.one(0, 0), 7);
        is("undo()", floor.undo(), -1);
        onlyFifteen();
        forgetting();
    }

    private static void onlyFifteen() {
        checks.about("promise 15, fifteen");
        VotingFloor floor = withPeople("5+3");
        for (int v = 1; v <= 20; v++) {
            floor.minutes(0);
            floor.sacks(0, v % 10);
        }
        is("count(8)", floor.count(8), 15);
        floor.sacks(0, 0);
        floor.sacks(0, 77);
        is("count(8)", floor.count(8), 15);
        for (int left = 14; left >= 0; left--) {
            is("undo()", floor.undo(), left);
        }
        is("undo()", floor.undo(), -1);
        is("one(0, 3)", floor.one(0, 3), 2);
    }

    private static void forgetting() {
        checks.about("promise 15, forgotten");
        VotingFloor floor = withPeople("5+3");
        floor.minutes(1);
        tell(floor, "x").people();
        is("count(8), people() refused", floor.count(8), 1);
        tell(floor, "").people();
        is("count(8), people() of nothing", floor.count(8), 1);
        floor.again(0);
        is("count(8), again() refused", floor.count(8), 1);
        tell(floor, "1+1").people();
        is("count(8), people()", floor.count(8), 0);
        floor.minutes(1);
        floor.keep(0);
        floor.again(0);
        is("count(8), again()", floor.count(8), 0);
        is("undo()", floor.undo(), -1);
    }

    // ---- how it tips

    private static void howItTips() {
        tipping();
        laters();
        deciding();
        sparing();
        swinging();
        levels();
        resting();
    }

    private static void tipping() {
        checks.about("promise 16");
        VotingFloor floor = placed("5+3;2-9;4+1;1+1;9+9", 3, -4, 1, 0, 9);
        floor.sacks(3, 6);
        floor.steps(4);
        is("tips()", floor.tips(), 1);
        checks.rowIs(floor, 19, 8, 7);
        floor.leads(0, -2);
        is("tips()", floor.tips(), -1);
        checks.rowIs(floor, 4, 18, 7);
        floor.leads(2, 9);
        floor.steps(0);
        floor.steps(1);
        floor.steps(2);
        is("tips()", floor.tips(), 0);
        checks.rowIs(floor, 0, 0, 7);
    }

    private static void laters() {
        checks.about("promise 17");
        VotingFloor floor = withPeople("5+3;2-9;1+9");
        floor.steps(2);
        is("later(1, 0)", floor.later(1, 0), 100);
        checks.rowIs(floor, 2000);
        is("later(1, 4)", floor.later(1, 4), 96);
        checks.rowIs(floor, 2000 + 15 - 8);
        is("later(2, 60)", floor.later(2, 60), 100);
        is("later(0, 61)", floor.later(0, 61), -1);
        is("later(0, -1)", floor.later(0, -1), -1);
        is("later(3, 1)", floor.later(3, 1), -1);
        is("later(-1, 1)", floor.later(-1, 1), -1);
        is("count(2)", floor.count(2), 0);
        is("one(1, 2)", floor.one(1, 2), 0);
    }

    private static void deciding() {
        checks.about("promise 18");
        VotingFloor floor = withPeople("5+3;2-9");
        is("decides()", floor.decides(), -1);
        checks.rowIs(floor, 1997, 103, 91);
        floor.noon(4);
        is("decides()", floor.decides(), 1);
        checks.rowIs(floor, 2007, 103, 96);
        floor.minutes(3);
        is("decides()", floor.decides(), 1);
        checks.rowIs(floor, 2007, 103, 96);
        floor.minutes(20);
        is("decides(), late", floor.decides(), -1);
        checks.rowIs(floor, 1997, 103, 91);
        floor.steps(0);
        floor.steps(1);
        is("decides()", floor.decides(), 0);
        checks.rowIs(floor, 2000, 103, 91);
        is("count(2)", floor.count(2), 23);
    }

    private static void sparing() {
        checks.about("promise 19");
        VotingFloor floor = withPeople("5+3;2-9;1-9;1-9");
        is("spares()", floor.spares(), 1);
        checks.rowIs(floor, 2000 + 15 - 18, 2000 + 15 - 36);
        floor.steps(1);
        is("spares(), of equal ones the first", floor.spares(), 2);
        checks.rowIs(floor, 2000 + 15 - 9, 2000 + 15 - 18);
        for (int i : new int[] {0, 2, 3}) {
            floor.steps(i);
        }
        is("spares(), all OFF", floor.spares(), -2);
        checks.rowIs(floor, 2006, 1997);
        is("spares(), none", new VotingFloor().spares(), -2);
    }

    private static void swinging() {
        checks.about("promise 20");
        VotingFloor floor = withPeople("3+3;2-9");
        is("swings(), from LEVEL", floor.swings(), 1);
        checks.rowIs(floor, 2);
        floor.minutes(2);
        // 9 - 2 n: 9 at 3, 1 at 4, -1 at 5
        is("swings(), from CARRIED", floor.swings(), 3);
        checks.rowIs(floor, 0);
        floor.minutes(10);
        is("swings()", floor.swings(), -2);
        checks.rowIs(floor, 8, 0, 1);
        VotingFloor level = withPeople("2+3;1-9");
        level.minutes(3);
        is("swings(), to LEVEL", level.swings(), 3);
        checks.rowIs(level, 1);
        is("swings(), none", new VotingFloor().swings(), -2);
        VotingFloor slow = placed("1+9", -9);
        tell(slow, "n=0").rule();
        is("swings(): at 1, 8, .., 57", slow.swings(), 57);
        checks.rowIs(slow, 1);
        tell(slow, "n=3").rule();
        is("swings(): at 4, 11, .., 60", slow.swings(), 60);
        checks.rowIs(slow, 1);
        is("level(): in 60", slow.level(), 1);
        checks.rowIs(slow, 60);
        tell(slow, "n=4").rule();
        is("swings(): at 5, 12, .., 61", slow.swings(), -2);
        is("level(): in 61", slow.level(), 0);
    }

    private static void levels() {
        checks.about("promise 21");
        VotingFloor floor = withPeople("2+3;1-9");
        is("level(): 0, 6", floor.level(), 2);
        checks.rowIs(floor, 0);
        floor.minutes(1);
        is("level(): in 5", floor.level(), 1);
        checks.rowIs(floor, 5);
        floor.minutes(10);
        is("level()", floor.level(), 0);
        checks.rowIs(floor);
        is("level(), none", new VotingFloor().level(), 61);
    }

    private static void resting() {
        checks.about("promise 22");
        VotingFloor floor = withPeople("2+3;1-9");
        is("rest()", floor.rest(), 9);
        checks.rowIs(floor, 1997);
        floor.minutes(9);
        is("rest()", floor.rest(), 0);
        checks.rowIs(floor, 1997);
        tell(floor, "(n<3)*2-1").rule();
        is("rest(), to and fro", floor.rest(), -2);
        checks.rowIs(floor, 1997);
        tell(floor, "n=0").rule();
        is("rest(), some may walk later", floor.rest(), 0);
        VotingFloor wall = withPeople("1+1");
        tell(wall, "1").rule();
        is("rest(), at the wall", wall.rest(), 9);
        checks.rowIs(wall, 2009);
        // one is at the wall in MINUTE 18; the other one goes four to the east and three back each week, and
        // comes to the wall in MINUTE 39 to turn there, but in MINUTE 45 he would go on
        VotingFloor late = placed("1+9;1+9", -9);
        tell(late, "1-i*2*(n>3)").rule();
        is("rest(), the first one ever", late.rest(), 45);
        checks.rowIs(late, 2018);
        VotingFloor latest = placed("1+9;1+9", 9, -1);
        tell(latest, "0").rule();
        latest.minutes(6);
        tell(latest, "1-i*2*(n>3)").rule();
        is("rest(), the last one to be told", latest.rest(), 60);
        checks.rowIs(latest, 2018);
        latest.leads(1, -2);
        is("rest(), a week later", latest.rest(), -2);
    }

    // ---- so that it is carried

    private static void soThatItIsCarried() {
        walking();
        walls();
        bearing();
        canvassing();
        clearing();
        headsOf();
    }

    private static void walking() {
        checks.about("promise 23");
        VotingFloor floor = placed("5+3;2-9;4+1", -3, -3, 1);
        is("walks(7)", floor.walks(7), 4);
        checks.rowIs(floor, 4, 0, 0);
        is("walks(6), the greatest row", floor.walks(6), 5);
        checks.rowIs(floor, 0, 1, 4);
        is("walks(2)", floor.walks(2), 9);
        checks.rowIs(floor, 0, 9, 0);
        is("walks(8)", floor.walks(8), -1);
        is("walks(-1)", floor.walks(-1), -1);
        is("walks(MIN)", floor.walks(Integer.MIN_VALUE), -1);
        is("walks(0)", floor.walks(0), -2);
        checks.rowIs(floor, 0, 9, 0);
        floor.leads(2, 9);
        is("walks(0), CARRIED", floor.walks(0), 0);
        checks.rowIs(floor, 0, 0, 0);
        is("walks(8), CARRIED", floor.walks(8), -1);
        floor.steps(1);
        is("walks(2), OFF", floor.walks(2), -1);
        VotingFloor far = placed("1+1;9+9", 0, -9);
        is("walks(1), not beyond 9", far.walks(1), -2);
        is("walks(3)", far.walks(3), 10);
        checks.rowIs(far, 1, 9);
        far.sacks(0, 9);
        is("walks(1), with a sack", far.walks(1), 9);
        checks.rowIs(far, 9, 0);
        is("walks(3), the heavier first", far.walks(3), 9);
        checks.rowIs(far, 9, 0);
        VotingFloor five = placed("4+1;4+1;1+1;3+1;9-1", 7, 6, 5, 4, -8);
        five.sacks(4, 4);
        is("walks(15): 36 are wanted", five.walks(15), 11);
        checks.rowIs(five, 2, 3, 1, 5, 0);
        is("walks(0), nobody", new VotingFloor().walks(0), -2);
    }

    private static void walls() {
        checks.about("promise 24");
        VotingFloor floor = placed("5+3;2-9;4+1", -3, -3, 1);
        is("wall()", floor.wall(), 1);
        checks.rowIs(floor, 1);
        floor.steps(0);
        floor.leads(1, -9);
        // -18 + 4: by 1 it is 18 + 4, by 2 it is -18 + 36
        is("wall()", floor.wall(), 1);
        checks.rowIs(floor, 2);
        floor.leads(2, 9);
        is("wall(), CARRIED", floor.wall(), 0);
        checks.rowIs(floor, 0);
        floor.steps(1);
        floor.steps(2);
        is("wall(), all OFF", floor.wall(), -2);
        VotingFloor two = placed("9+1;1+1;1+1", -2, -9, -9);
        two.steps(0);
        is("wall(): one is not enough", two.wall(), 2);
        checks.rowIs(two, 6);
    }

    private static void bearing() {
        checks.about("promise 25");
        VotingFloor floor = placed("1+3;2-9", 2, -5);
        is("bears(0): 1 and 5 times 2", floor.bears(0), 5);
        checks.rowIs(floor, 2002);
        floor.sacks(0, 9);
        is("bears(0), instead of his", floor.bears(0), 5);
        is("bears(1), CARRIED", floor.bears(1), 0);
        checks.rowIs(floor, 2010);
        floor.leads(1, -9);
        floor.sacks(1, 3);
        is("bears(0): by none", floor.bears(0), -2);
        checks.rowIs(floor, 2010);
        is("bears(1): with less", floor.bears(1), 0);
        checks.rowIs(floor, 2002);
        is("bears(2)", floor.bears(2), -1);
        is("bears(-1)", floor.bears(-1), -1);
        floor.steps(1);
        is("bears(1), OFF", floor.bears(1), 0);
        checks.rowIs(floor, 2020);
        floor.steps(0);
        is("bears(0), OFF", floor.bears(0), -2);
        VotingFloor most = placed("1+3;9-9", 1, -1);
        is("bears(0): 9", most.bears(0), 9);
        checks.rowIs(most, 2001);
    }

    private static void canvassing() {
        checks.about("promise 26");
        VotingFloor floor = withPeople("5+3;2-9;4-1");
        is("canvass()", floor.canvass(), 1);
        checks.rowIs(floor, 2);
        floor.turnsTo(1, -4);
        is("canvass(), CARRIED", floor.canvass(), 0);
        checks.rowIs(floor, 0);
        floor.turnsTo(0, -3);
        is("canvass()", floor.canvass(), 1);
        checks.rowIs(floor, 1);
        floor.steps(0);
        is("canvass(), one OFF", floor.canvass(), 1);
        checks.rowIs(floor, 2);
        floor.turnsTo(1, 0);
        floor.turnsTo(2, 0);
        is("canvass(), nobody cares", floor.canvass(), -2);
        VotingFloor alike = withPeople("1-1;1-1;1-1");
        is("canvass(), two", alike.canvass(), 2);
        checks.rowIs(alike, 3);
    }

    private static void clearing() {
        checks.about("promise 27");
        VotingFloor floor = placed("5+3;2-9;4+1;1+1", 2, -5, 1, 0);
        is("clears()", floor.clears(), 1);
        checks.rowIs(floor, 4);
        floor.leads(2, 0);
        is("clears(), LEVEL", floor.clears(), 0);
        checks.rowIs(floor, 0);
        floor.leads(1, -4);
        is("clears()", floor.clears(), 2);
        checks.rowIs(floor, 3);
        floor.steps(0);
        is("clears(), one OFF", floor.clears(), 1);
        checks.rowIs(floor, 2);
    }

    private static void headsOf() {
        checks.about("promise 28");
        VotingFloor floor = withPeople("5+3;2-9;4+1;9+0");
        floor.sacks(1, 7);
        is("heads()", floor.heads(), 101);
        checks.rowIs(floor, 1000, 995, 10000 + 15 - 81 + 4);
        floor.steps(0);
        is("heads(), one OFF", floor.heads(), 100);
        checks.rowIs(floor, 995, 992, 10000 - 81 + 4);
    }

    // ---- what somebody decides

    private static void whatSomebodyDecides() {
        powers();
        strongestOnes();
        justSo();
    }

    private static void powers() {
        checks.about("promise 29");
        VotingFloor floor = withPeople("5+3;2-9;4+1;1+0");
        // 15, 18, 4, 0: any two of the first three outweigh the third one
        is("power(0)", floor.power(0), 0);
        checks.rowIs(floor, 1, 2);
        is("power(3): it is all the same", floor.power(3), 0);
        checks.rowIs(floor, 0, 1);
        is("power(4)", floor.power(4), -1);
        is("power(-1)", floor.power(-1), -1);
        floor.steps(1);
        is("power(1), OFF", floor.power(1), -2);
        checks.rowIs(floor, 0, 1);
        is("power(0), the heaviest", floor.power(0), 0);
        checks.rowIs(floor, 1, 1);
        is("power(2)", floor.power(2), 0);
        checks.rowIs(floor, 0, 1);
        floor.sacks(2, 9);
        floor.turnsTo(2, 2);
        floor.turnsTo(3, 1);
        // 15, 26, 1
        is("power(2), by his sack", floor.power(2), 0);
        checks.rowIs(floor, 1, 1);
        VotingFloor equal = withPeople("2+1;1-2");
        // 2 and 2: with one of them in the west it is LEVEL or LOST
        is("power(0), of equal ones", equal.power(0), 0);
        checks.rowIs(equal, 1, 2);
    }

    private static void strongestOnes() {
        checks.about("promise 30");
        VotingFloor floor = withPeople("5+1;2-9;4+1");
        is("strongest()", floor.strongest(), 1);
        checks.rowIs(floor, 4, 4);
        floor.turnsTo(1, 4);
        is("strongest(), all alike", floor.strongest(), 0);
        checks.rowIs(floor, 2, 6);
        floor.steps(0);
        is("strongest()", floor.strongest(), 1);
        checks.rowIs(floor, 2, 2);
        floor.turnsTo(1, 0);
        floor.turnsTo(2, 0);
        is("strongest(), nobody cares", floor.strongest(), 1);
        checks.rowIs(floor, 0, 0);
        floor.steps(1);
        floor.steps(2);
        is("strongest(), all OFF", floor.strongest(), -2);
        is("strongest(), nobody", new VotingFloor().strongest(), -2);
    }

    private static void justSo() {
        checks.about("promise 31");
        VotingFloor floor = withPeople("5+3;2-9;4+1;1+1;6+1");
        is("just(6)", floor.just(6), 1);
        checks.rowIs(floor, 16, 3);
        is("just(7)", floor.just(7), 2);
        checks.rowIs(floor, 3, 3);
        is("just(0)", floor.just(0), 0);
        checks.rowIs(floor, 0, 1);
        is("just(18)", floor.just(18), 5);
        checks.rowIs(floor, 31, 1);
        is("just(19)", floor.just(19), -2);
        checks.rowIs(floor, 31, 1);
        is("just(-1)", floor.just(-1), -1);
        is("just(100)", floor.just(100), -1);
        is("just(99)", floor.just(99), -2);
        floor.steps(4);
        is("just(6), one OFF", floor.just(6), 2);
        checks.rowIs(floor, 6, 2);
        floor.sacks(3, 5);
        is("just(6), by a sack", floor.just(6), 1);
        checks.rowIs(floor, 8, 2);
    }

    // ---- who stands where

    private static void whoStandsWhere() {
        checks.about("promise 32");
        VotingFloor floor = placed("5+3;2-9;4+1;3+1;1+1", 4, -7, 7, 7, -4);
        is("farthest()", floor.farthest(), 1);
        checks.rowIs(floor, 7, 3);
        floor.steps(1);
        is("farthest()", floor.farthest(), 2);
        checks.rowIs(floor, 7, 2);
        floor.steps(1);
        VotingFloor pinned = withPeople("1+1;1+1");
        is("farthest(), on the pin", pinned.farthest(), 0);
        checks.rowIs(pinned, 0, 2);
        pinned.steps(0);
        pinned.steps(1);
        is("farthest(), all OFF", pinned.farthest(), -2);
        checks.rowIs(pinned, 0, 2);

        checks.about("promise 33");
        is("line()", floor.line(), 5);
        checks.rowIs(floor, 1, 4, 0, 2, 3);
        floor.steps(4);
        is("line(), one OFF", floor.line(), 4);
        checks.rowIs(floor, 1, 0, 2, 3);
        is("line(), all OFF", pinned.line(), 0);
        checks.rowIs(pinned);
        backToBack();
        crowding();
    }

    private static void backToBack() {
        checks.about("promise 34");
        VotingFloor floor = placed("5+3;2-9;4+1;2+1;2+1;2+1;2+1", 7, -7, 7, 7, 7, 0, 0);
        is("backs()", floor.backs(), 2);
        checks.rowIs(floor, 1, 3);
        floor.sacks(1, 3);
        is("backs(), by LOAD", floor.backs(), 1);
        checks.rowIs(floor, 0, 1);
        floor.steps(0);
        is("backs()", floor.backs(), 0);
        checks.rowIs(floor);
    }

    private static void crowding() {
        checks.about("promise 35");
        VotingFloor floor = placed("5+3;2-9;4+1;3+1;1+1", 4, -7, 4, -7, 0);
        is("crowd(), of as many the least", floor.crowd(), 2);
        checks.rowIs(floor, 93, 10);
        floor.steps(1);
        is("crowd()", floor.crowd(), 2);
        checks.rowIs(floor, 104, 5);
        for (int i : new int[] {0, 2, 3, 4}) {
            floor.steps(i);
        }
        is("crowd(), all OFF", floor.crowd(), 0);
        checks.rowIs(floor);
    }

    // ---- how much one cares

    private static void howMuchOneCares() {
        seeing();
        caring();
        looking();
    }

    private static void seeing() {
        checks.about("promise 36");
        VotingFloor floor = withPeople("5+3;2-9");
        is("seen(2, 0, 0)", floor.seen(2, 0, 0), -1);
        is("seen(-1, 0, 0)", floor.seen(-1, 0, 0), -1);
        is("seen(0, 21, 0)", floor.seen(0, 21, 0), -1);
        is("seen(0, -1, 0)", floor.seen(0, -1, 0), -1);
        is("seen(0, 0, 10)", floor.seen(0, 0, 10), -1);
        is("seen(0, 0, -10)", floor.seen(0, 0, -10), -1);
        is("count(6)", floor.count(6), 0);
        for (int k = 1; k <= 10; k++) {
            is("seen(1, 20, -9)", floor.seen(1, 20, -9), k);
        }
        is("seen, the 11th", floor.seen(1, 20, -9), -1);
        is("count(6)", floor.count(6), 10);
        checks.about("promise 37");
        is("forget()", floor.forget(), 10);
        is("forget()", floor.forget(), 0);
        is("count(6)", floor.count(6), 0);
        is("seen(0, 20, 9)", floor.seen(0, 20, 9), 1);
    }

    private static void caring() {
        checks.about("promise 38");
        VotingFloor floor = withPeople("5+3;2-9");
        is("cares(2)", floor.cares(2), -1);
        is("cares(-1)", floor.cares(-1), -1);
        is("cares(0), nothing seen", floor.cares(0), (1 << 19) - 1);
        checks.rowIs(floor, 19, 91, 109);
        floor.seen(0, 4, 4);
        is("cares(0): 4 and more", floor.cares(0), 0b111111 << 13);
        checks.rowIs(floor, 6, 104, 109);
        is("cares(1): it is not so", floor.cares(1), 0);
        checks.rowIs(floor, 0);
        floor.seen(0, 9, 7);
        is("cares(0): 7", floor.cares(0), 1 << 16);
        checks.rowIs(floor, 1, 107, 107);
        floor.seen(1, 3, 0);
        is("cares(0): of others, too", floor.cares(0), 0);
        checks.rowIs(floor, 0);
        floor.forget();
        floor.seen(1, 2, -2);
        is("cares(1): -2 and less", floor.cares(1), 0b11111111);
        checks.rowIs(floor, 8, 91, 98);
        floor.steps(1);
        is("cares(1), OFF he stays", floor.cares(1), 0);
        floor.forget();
        floor.seen(1, 2, 0);
        is("cares(1), OFF", floor.cares(1), (1 << 19) - 1);
        is("one(1, 1)", floor.one(1, 1), -9);
        is("one(0, 2)", floor.one(0, 2), 0);
    }

    private static void looking() {
        checks.about("promise 39");
        VotingFloor floor = withPeople("5+3;2-9");
        is("looks(2)", floor.looks(2), -1);
        is("looks(-1)", floor.looks(-1), -1);
        is("looks(0)", floor.looks(0), 9);
        checks.rowIs(floor, 1);
        floor.seen(0, 3, 3);
        floor.seen(0, 6, 5);
        is("looks(0): one is left", floor.looks(0), 0);
        checks.rowIs(floor, 1);
        floor.seen(0, 6, 4);
        is("looks(0): none is left", floor.looks(0), -2);
        checks.rowIs(floor, 1);
        floor.forget();
        floor.steps(0);
        is("looks(0), OFF", floor.looks(0), 0);
        checks.rowIs(floor, 19);
        floor.steps(0);
        // he walks by whether he is for it alone: 9 for it, 9 against, 1 neither
        tell(floor, "(c>0)-(c<0)").rule();
        is("looks(0)", floor.looks(0), 1);
        checks.rowIs(floor, 9);
        // the other one goes to the east but when n is 0; he is on 7 behind 19 minutes, and only then one walks
        VotingFloor last = placed("1+1;1+1", 0, -9);
        tell(last, "i*(n>0)+(1-i)*c*(m>6)").rule();
        is("looks(0): the last minute", last.looks(0), 20);
        checks.rowIs(last, 9);
    }

    // ---- which one it was

    private static void whichOneItWas() {
        hearing();
        fitting();
        asking();
    }

    private static void hearing() {
        checks.about("promise 40");
        VotingFloor floor = new VotingFloor();
        int[][] refused = {
            {0, 0}, {0, 19}, {0, -1}, {1, 2}, {1, -1}, {2, -1}, {2, 10}, {3, 2}, {3, -1}, {4, 2}, {4, -1}, {5, 0}, {-1, 0},
        };
        for (int[] one : refused) {
            is("heard(" + one[0] + ", " + one[1] + ")", floor.heard(one[0], one[1]), -1);
        }
        int[][] taken = {
            {0, 1}, {0, 18}, {1, 0}, {1, 1}, {2, 0}, {2, 9}, {3, 0}, {3, 1}, {4, 0}, {4, 1}, {4, 1}, {4, 1},
        };
        for (int k = 0; k < taken.length; k++) {
            is("heard(" + taken[k][0] + ", " + taken[k][1] + ")", floor.heard(taken[k][0], taken[k][1]), k + 1);
        }
        is("heard, the 13th", floor.heard(4, 1), -1);
        is("count(7)", floor.count(7), 12);
        checks.about("promise 41");
        is("denies()", floor.denies(), 12);
        is("denies()", floor.denies(), 0);
        is("count(7)", floor.count(7), 0);
    }

    private static void fitting() {
        checks.about("promise 42");
        // LOAD 5, 2, 4, 9; WISH 3, -9, 0, 1; PLACE 3, -4, 0, -9; the last one is OFF
        int[][] due = {
            {0, 1, 15}, {0, 4, 13}, {0, 5, 9}, {0, 9, 8}, {0, 10, 0}, {1, 1, 9}, {1, 0, 6}, {2, 0, 15}, {2, 1, 11},
            {2, 4, 10}, {2, 5, 8}, {3, 1, 1}, {3, 0, 14}, {4, 1, 8}, {4, 0, 7},
        };
        for (int[] one : due) {
            VotingFloor floor = mixed();
            floor.heard(one[0], one[1]);
            is("fits(), heard " + one[0] + ", " + one[1], floor.fits(), one[2]);
            checks.rowIs(floor, Integer.bitCount(one[2]));
        }
        VotingFloor floor = mixed();
        is("fits(), nothing heard", floor.fits(), 15);
        floor.heard(0, 4);
        floor.heard(1, 1);
        floor.heard(4, 0);
        is("fits(), all of it", floor.fits(), 1);
        floor.leads(0, 1);
        floor.heard(3, 1);
        is("fits(), next to the pin", floor.fits(), 1);
        floor.steps(0);
        is("fits(), as it is now", floor.fits(), 0);
        checks.rowIs(floor, 0);
    }

    private static VotingFloor mixed() {
        VotingFloor floor = placed("5+3;2-9;4+0;7+1", 3, -4, 0, -9);
        floor.sacks(3, 2);
        floor.steps(3);
        return floor;
    }

    private static void asking() {
        checks.about("promise 43");
        VotingFloor floor = mixed();
        is("asks(): LOAD 5 or more", floor.asks(), 5);
        checks.rowIs(floor, 2);
        floor.heard(0, 5);
        is("asks(): LOAD 6 or more", floor.asks(), 6);
        checks.rowIs(floor, 1);
        floor.heard(0, 6);
        is("asks(), of one", floor.asks(), 1);
        checks.rowIs(floor, 1);
        floor.heard(4, 0);
        is("asks(): none fits", floor.asks(), -2);
        checks.rowIs(floor, 1);
        VotingFloor heaviest = withPeople("9+1;9+1");
        heaviest.sacks(0, 9);
        heaviest.sacks(1, 8);
        is("asks(): LOAD 18 or more", heaviest.asks(), 18);
        checks.rowIs(heaviest, 1);
        VotingFloor byWish = withPeople("1+1;1+0");
        is("asks(): for it or not", byWish.asks(), 20);
        VotingFloor byPlace = placed("1+1;1+1", 3, 2);
        is("asks(): how far", byPlace.asks(), 43);
        VotingFloor bySide = placed("1+1;1+1", 3, -3);
        is("asks(): in the east", bySide.asks(), 60);
        VotingFloor byOff = withPeople("1+1;1+1");
        byOff.steps(1);
        is("asks(): OFF", byOff.asks(), 80);
        is("asks(), nobody", new VotingFloor().asks(), -2);
    }

    // ---- faints, a plank

    private static void faintsAndPlank() {
        checks.about("promise 44");
        VotingFloor floor = placed("5+3;2-9", 1, -1);
        is("faints(-1)", floor.faints(-1), -1);
        is("faints(11)", floor.faints(11), -1);
        is("faints(0)", floor.faints(0), 0);
        checks.rowIs(floor, 1, 1);
        is("faints(10)", floor.faints(10), 0);
        checks.rowIs(floor, 0, 1);
        is("faints(3): as the first one stays", floor.faints(3), 0);
        checks.rowIs(floor, 7, 10);
        floor.leads(1, -3);
        // now the first one must stay, and the other one faint
        is("faints(4)", floor.faints(4), 0);
        checks.rowIs(floor, 6, 25);
        floor.steps(1);
        is("faints(4), one OFF", floor.faints(4), 0);
        checks.rowIs(floor, 3, 5);
        VotingFloor seven = placed("1+1;1+1;1+1;1+1;1+1;1+1;1+1", 1, 1, 1, 1, 1, 1, 1);
        is("faints(9): not all", seven.faints(9), 0);
        checks.rowIs(seven, 10000000 - 4782969, 10000000);

        checks.about("promise 45");
        int[][] due = {
            {0, 2, 0}, {1, 2, 1}, {2, 2, 1}, {3, 2, 0}, {4, 2, 1}, {5, 2, 1}, {6, 2, 0}, {1, 9, 1}, {2, 9, 1}, {3, 9, 3},
            {61, 2, -1}, {-1, 2, -1}, {5, 1, -1}, {5, 10, -1}, {60, 2, 0},
        };
        for (int[] one : due) {
            is("plank(" + one[0] + ", " + one[1] + ")", floor.plank(one[0], one[1]), one[2]);
        }
    }

    // ---- laws, crossings, years

    private static void lawsCrossingsYears() {
        laws();
        crossingsAtRest();
        yearsDrawn();
    }

    private static void laws() {
        checks.about("promise 46");
        VotingFloor floor = withPeople("5+3;2-9");
        is("law()", tell(floor, "i").law(), 5000 + 18 - (15 - 18));
        checks.rowIs(floor, 2, 0, 100, 109);
        is("count(10)", floor.count(10), 0);
        is("law() that can't stand", tell(floor, "c+").law(), -10002);
        is("law() that can't stand", tell(floor, "z").law(), -10000);
        is("law() that is too long", tell(floor, "1+".repeat(20) + "1").law(), -10040);
        checks.rowIs(floor, 2, 0, 100, 109);
        tell(floor, "0").rule();
        is("law(), none", tell(floor, "").law(), 5000 - 3);
        checks.rowIs(floor, 0, 1, 103, 91);
        is("decides(), by THE RULE", floor.decides(), 0);
        floor.minutes(12);
        is("law(), late", tell(floor, "1").law(), 5000);
        checks.rowIs(floor, 1, 1, 100, 100);
    }

    private static void crossingsAtRest() {
        checks.about("promise 47");
        VotingFloor floor = new VotingFloor();
        is("crossings(-1)", floor.crossings(-1), -1);
        is("crossings(21)", floor.crossings(21), -1);
        is("crossings(0)", floor.crossings(0), 6);
        checks.rowIs(floor, 0, 0);
        // best against 0: 1, 2; against 1: 0 .. 4; against 2: 0, 1, 3; against 3 and more: all that is less
        is("crossings(1)", floor.crossings(1), 13);
        checks.rowIs(floor, 0, 1);
        for (int v = 0; v <= 20; v++) {
            int[] due = crossingsByHand(v);
            is("crossings(" + v + ")", floor.crossings(v), due[0]);
            if (due[0] > 0) {
                checks.rowIs(floor, due[1], due[2]);
            } else {
                checks.rowIs(floor);
            }
        }
    }

    private static int[] crossingsByHand(int v) {
        int[] due = {0, 0, 0};
        for (int x = 9; x >= 0; x--) {
            for (int y = 9; y >= 0; y--) {
                boolean rest = true;
                for (int z = 0; z <= 9; z++) {
                    rest &= has(z, y, v) <= has(x, y, v) && has(z, x, v) <= has(y, x, v);
                }
                if (rest) {
                    due = new int[] {due[0] + 1, x, y};
                }
            }
        }
        return due;
    }

    private static int has(int own, int other, int v) {
        return own < other ? 0 : own == other ? -(own / 2) : v - (own + other) / 3;
    }

    private static void yearsDrawn() {
        checks.about("promise 48");
        VotingFloor floor = placed("5+3;2-9", 1);
        is("years(1, 0)", floor.years(1, 0), -1);
        is("years(1, 61)", floor.years(1, 61), -1);
        checks.rowIs(floor);
        // seed 0, by 65536: 0, 54236, 42756, 54885 (four minutes), 3498 (2: a sack), 49695 (who: 1), 16045 (5)
        int[][] sacks = {{2008, 1, 3}, {2011, 2, 3}, {2009, 3, 3}, {2007, 4, 3}, {2000 + 15 - 28, 4, 3}};
        for (int n = 1; n <= sacks.length; n++) {
            is("years(0, " + n + ")", floor.years(0, n), sacks[n - 1][0]);
            checks.rowIs(floor, sacks[n - 1][1], sacks[n - 1][2]);
        }
        // seed 3: 50515 (3: steps off), 7107 (who: 1), 10365, 41080 (minutes), 53390 (a sack), 15796 (who: 0),
        // 4173 (3), 15543 (steps off), 57160 (who: 0)
        int[][] offs = {{2005, 1, 1}, {2010, 2, 1}, {2015, 3, 1}, {2024, 4, 1}, {2000, 4, 0}};
        for (int n = 1; n <= offs.length; n++) {
            is("years(3, " + n + ")", floor.years(3, n), offs[n - 1][0]);
            checks.rowIs(floor, offs[n - 1][1], offs[n - 1][2]);
        }
        is("count(1)", floor.count(1), 3);
        is("count(2)", floor.count(2), 0);
        is("one(0, 2)", floor.one(0, 2), 1);
        is("count(8)", floor.count(8), 1);
        VotingFloor nobody = new VotingFloor();
        is("years(0, 60), nobody", nobody.years(0, 60), 2000);
        checks.rowIs(nobody, 0, 0);
    }

    // ---- kept

    private static void kept() {
        checks.about("promises 49, 50");
        VotingFloor floor = withPeople("5+3;2-9");
        is("again(0)", floor.again(0), false);
        is("keep(3)", floor.keep(3), false);
        is("keep(-1)", floor.keep(-1), false);
        is("again(3)", floor.again(3), false);
        is("again(-1)", floor.again(-1), false);
        is("keep(0)", floor.keep(0), true);
        floor.minutes(2);
        floor.noon(44);
        floor.steps(1);
        floor.turnsTo(0, -3);
        floor.sacks(0, 8);
        is("keep(2)", floor.keep(2), true);
        floor.sheet(2, 2, 9, 0);
        is("again(0)", floor.again(0), true);
        is("count(2)", floor.count(2), 0);
        is("count(3)", floor.count(3), 12);
        is("count(1)", floor.count(1), 3);
        is("one(0, 1)", floor.one(0, 1), 3);
        is("one(0, 2)", floor.one(0, 2), 0);
        is("one(0, 3)", floor.one(0, 3), 0);
        is("one(0, 0): not WEIGHT", floor.one(0, 0), 9);
        is("count(8)", floor.count(8), 0);
        is("again(2)", floor.again(2), true);
        is("count(2)", floor.count(2), 2);
        is("count(3)", floor.count(3), 44);
        is("one(0, 3)", floor.one(0, 3), 8);
        is("again(1)", floor.again(1), false);
        is("again(2), once more", floor.again(2), true);
        tell(floor, "").people();
        is("again(2), nobody came", floor.again(2), true);
        tell(floor, "1+1").people();
        is("again(2), PEOPLE came", floor.again(2), false);
        is("again(0), PEOPLE came", floor.again(0), false);
        is("keep(2)", floor.keep(2), true);
        is("again(2)", floor.again(2), true);

        checks.about("promises 51, 52");
        floor.seen(0, 0, 0);
        floor.heard(1, 1);
        floor.heard(1, 1);
        floor.sign(0);
        floor.tips();
        floor.noon(2);
        int[] due = {3, 5, 2, 2, 2000 + 17 * 2, 18, 1, 2, 1, 3, 4};
        for (int what = 0; what < due.length; what++) {
            is("count(" + what + ")", floor.count(what), due[what]);
        }
        is("count(-1)", floor.count(-1), -100);
        is("count(11)", floor.count(11), -100);
        checks.rowIs(floor, 34, 0, 1);
    }
}
