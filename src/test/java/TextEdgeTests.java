/** The edges that the terms and promises 1 to 7 name, each on a new object. */
public final class TextEdgeTests {
    private static final Checks checks = new Checks();
    private static final Edges edges = new Edges(checks);

    /** Forty signs that can stand, of which the last two are digits. */
    private static final String FORTY = "c+p+w+m+q+i+n+c+p+w+m+q+i+n+c+p+w+m+q+12";

    public static void main(String[] args) {
        termsOfPeople();
        termsOfTheFloor();
        termsOfComparing();
        termsOfCounting();
        termsOfThings();
        termsOfInts();
        termsOfMinutes();
        termsOfTheRow();
        newObject();
        signs();
        ends();
        people();
        peopleWithoutRoom();
        peopleTooMany();
        rules();
        rulesBehindOthers();
        rulesTooLong();
        ones();
        sheetsRefused();
        sheetsPutTo();
        checks.finish();
    }

    private static VotingFloor tell(VotingFloor floor, String text) {
        return Checks.tell(floor, text);
    }

    private static VotingFloor withPeople(String lines) {
        return Checks.withPeople(lines);
    }

    private static void is(String call, long got, long due) {
        checks.is(call, got, due);
    }

    private static void is(String call, boolean got, boolean due) {
        checks.is(call, got, due);
    }

    // ---- terms

    private static void termsOfPeople() {
        checks.about("terms: PEOPLE 0 .. (at most 7)");
        VotingFloor full = withPeople(Edges.SEVEN);
        is("count(0)", full.count(0), 7);
        is("one(6, 0)", full.one(6, 0), 7);
        checks.throwsAtOne(full, 7, 0);
        checks.about("terms: WEIGHT 1 .. 9");
        is("people() of 0+1", tell(new VotingFloor(), "0+1").people(), -1);
        is("1+1", withPeople("1+1").one(0, 0), 1);
        is("9+1", withPeople("9+1").one(0, 0), 9);
        checks.about("terms: WISH -9 .. 9");
        is("1+9", withPeople("1+9").one(0, 1), 9);
        is("1-9", withPeople("1-9").one(0, 1), -9);
        is("1+0", withPeople("1+0").one(0, 1), 0);
        is("1-0", withPeople("1-0").one(0, 1), 0);
        checks.about("terms: PLACE at first 0, SACK at first 0, OFF at first not");
        VotingFloor late = withPeople("1+9");
        late.minutes(5);
        late.sacks(0, 9);
        late.steps(0);
        tell(late, "2-9").people();
        int[] due = {2, -9, 0, 0, 0, -1};
        for (int what = 0; what < due.length; what++) {
            is("one(1, " + what + ")", late.one(1, what), due[what]);
        }
        is("one(0, 2), who was there", late.one(0, 2), 5);
        is("one(0, 4), who was there", late.one(0, 4), 1);
        is("count(2): MINUTE goes on", late.count(2), 5);
    }

    private static void termsOfTheFloor() {
        checks.about("terms: MINUTE (at first 0), NOON (at first 12)");
        is("count(2)", new VotingFloor().count(2), 0);
        is("count(3)", new VotingFloor().count(3), 12);
        checks.about("terms: LOAD is WEIGHT and SACK");
        VotingFloor heavy = withPeople("9+1");
        heavy.sacks(0, 9);
        is("count(5), the heaviest", heavy.count(5), 18);
        is("count(5), the lightest", withPeople("1+1").count(5), 1);
        checks.about("terms: THE FLOOR's MOMENT");
        for (int side : new int[] {9, -9}) {
            VotingFloor all = withPeople("9+1;9+1;9+1;9+1;9+1;9+1;9+1");
            for (int i = 0; i < 7; i++) {
                all.sacks(i, 9);
                all.leads(i, side);
            }
            is("count(4), all at the wall", all.count(4), 2000 + 7 * 18 * side);
            is("tips()", all.tips(), side / 9);
        }
        checks.about("terms: above 0 it is CARRIED, below 0 it is LOST, else it is LEVEL");
        is("by 1", Checks.placed("2+1;1+1", 1, -1).tips(), 1);
        is("by none", Checks.placed("2+1;1+1", 1, -2).tips(), 0);
        is("by -1", Checks.placed("2+1;1+1", 1, -3).tips(), -1);
        VotingFloor off = Checks.placed("2+1;1+1", 1, -3);
        off.steps(1);
        is("of all who are not OFF", off.count(4), 2002);
    }

    /** Which way one of WEIGHT 5, WISH 3, on the pin walks by a rule. */
    private static int way(String rule) {
        VotingFloor floor = withPeople("5+3");
        is("rule() of " + rule, tell(floor, rule).rule(), 0);
        return floor.one(0, 5);
    }

    private static void ways(Object... rulesAndDues) {
        for (int k = 0; k + 1 < rulesAndDues.length; k += 2) {
            String rule = (String) rulesAndDues[k];
            is("one(0, 5) by " + rule, way(rule), (Integer) rulesAndDues[k + 1]);
        }
    }

    private static void termsOfComparing() {
        checks.about("terms: < > = tell 1 or 0");
        ways("1<2", 1, "2<2", 0, "3<2", 0, "(1<2)-1", 0, "(2<1)+1", 1);
        ways("2>1", 1, "2>2", 0, "2>3", 0, "(2>1)-1", 0, "(1>2)+1", 1);
        ways("2=2", 1, "2=3", 0, "3=2", 0, "(2=2)-1", 0, "(2=1)+1", 1);
        checks.about("terms: < > = bind least");
        ways("1+1<2", 0, "0-1<0", 1, "2=1+1", 1, "2*2>3+1", 0, "4/2=1*2", 1, "-1<-2", 0);
        checks.about("terms: not one behind the other");
        edges.refusedText("1<2<3", -4, VotingFloor::rule);
        edges.refusedText("1<2=3", -4, VotingFloor::rule);
        edges.refusedText("1=2+1>3", -6, VotingFloor::rule);
        edges.refusedText("(1<2>3)", -5, VotingFloor::rule);
        edges.refusedText("1<(2<3)<4", -8, VotingFloor::rule);
        ways("(1<2)=1", 1, "1=(2>1)", 1, "(1<2)=(3<4)", 1, "(1<2)+(1<2)-2", 0, "((1<2)<3)=(1>0)", 1);
    }

    private static void termsOfCounting() {
        checks.about("terms: + - from the left");
        ways("5-3-2", 0, "5-3+2", 1, "1-2-3+4", 0, "2-3+1", 0);
        checks.about("terms: * / from the left");
        ways("8/4/2-1", 0, "8/4*2-4", 0, "2*3/4-1", 0, "3/2*2-2", 0, "2*3*4-24", 0);
        checks.about("terms: * / bind more than + -");
        ways("1-2*3+5", 0, "6-4/2-4", 0, "(1-2)*3+3", 0);
        checks.about("terms: by 0: 0");
        ways("5/0", 0, "5/0+1", 1, "5/0-1", -1, "0/0", 0, "-5/0", 0, "5/(c-3)", 0, "5/(c-3)*2+1", 1, "7/p", 0, "7/0/0", 0);
        checks.about("terms: cut to 0");
        ways("1/2", 0, "-1/2", 0, "1/-2", 0, "-1/-2", 0, "-3/2+1", 0, "3/-2+1", 0, "-3/-2-1", 0, "-7/2+3", 0);
        checks.about("terms: - ahead of a thing (any many)");
        ways("-1", -1, "--1", 1, "---1", -1, "1--1-2", 0, "2*-1", -1, "-2*-1", 1, "6/-3+2", 0, "-(1-2)", 1, "--(1-2)", -1);
        ways("-".repeat(39) + "1", -1, "-".repeat(38) + "1", 1, "1" + "-".repeat(38) + "1", 1);
        ways("-c", -1, "-c+3", 0, "-1+2", 1, "0<-1", 0, "-1<0", 1);
        checks.about("terms: a NUMBER of 1 to 3 digits");
        ways("0", 0, "1", 1, "00", 0, "000", 0, "001", 1, "010-10", 0, "99-98-1", 0, "100-99-1", 0, "999-998-1", 0);
        edges.refusedText("0000", -4, VotingFloor::rule);
        edges.refusedText("1000", -4, VotingFloor::rule);
        edges.refusedText("(1+1234)", -7, VotingFloor::rule);
        checks.about("terms: ( ) (at most 4 in one another)");
        ways("1+(1+(1+(1+(1+1))))", 1, "((((1))))", 1, "((((1))))-((((1))))", 0, "((((1)-1)-1)-1)+2", 0, "-(-(-(-(1))))", 1);
        edges.refusedText("(((((1)))))", -5, VotingFloor::rule);
        edges.refusedText("1+(1+(1+(1+(1+(1+1)))))", -15, VotingFloor::rule);
        edges.refusedText("((((1))))+(((((1)))))", -15, VotingFloor::rule);
    }

    /** Which way one of some who stand so walks by a rule. */
    private static int wayOf(VotingFloor floor, int one, String rule) {
        is("rule() of " + rule, tell(floor, rule).rule(), 0);
        return floor.one(one, 5);
    }

    private static void termsOfThings() {
        checks.about("terms: c WISH");
        is("c of 9", wayOf(withPeople("1+9"), 0, "c-9"), 0);
        is("c of -9", wayOf(withPeople("1-9"), 0, "c+9"), 0);
        is("c of 0", wayOf(withPeople("1+0"), 0, "c"), 0);
        checks.about("terms: p PLACE");
        is("p of 9", wayOf(Checks.placed("1+0", 9), 0, "p-9"), 0);
        is("p of -9", wayOf(Checks.placed("1+0", -9), 0, "p+9"), 0);
        checks.about("terms: w LOAD");
        is("w of 1", wayOf(withPeople("1+0"), 0, "w-1"), 0);
        VotingFloor heavy = withPeople("9+0");
        heavy.sacks(0, 9);
        is("w of 18", wayOf(heavy, 0, "w-18"), 0);
        checks.about("terms: m MOMENT");
        is("m of nobody else", wayOf(withPeople("1+0"), 0, "m"), 0);
        is("m of the west", wayOf(Checks.placed("1+0;9+0", 0, -9), 0, "m+81"), 0);
        VotingFloor off = Checks.placed("1+0;9+0;2+0", 0, -9, 1);
        off.steps(1);
        is("m without who is OFF", wayOf(off, 0, "m-2"), 0);
        checks.about("terms: q how many others who are not OFF stand on his PLACE");
        is("q of one alone", wayOf(withPeople("1+0"), 0, "q"), 0);
        is("q of seven", wayOf(withPeople(Edges.SEVEN), 6, "q-6"), 0);
        VotingFloor six = withPeople(Edges.SEVEN);
        six.steps(3);
        is("q without who is OFF", wayOf(six, 6, "q-5"), 0);
        is("q, others elsewhere", wayOf(Checks.placed("1+0;1+0;1+0", 3, -3, 3), 0, "q-1"), 0);
        checks.about("terms: i his number");
        is("i of the first", wayOf(withPeople(Edges.SEVEN), 0, "i"), 0);
        is("i of the last", wayOf(withPeople(Edges.SEVEN), 6, "i-6"), 0);
        checks.about("terms: n MINUTE by 7 (rest)");
        int[][] minutes = {{0, 0}, {1, 1}, {6, 6}, {7, 0}, {8, 1}, {13, 6}, {14, 0}, {60, 4}};
        for (int[] one : minutes) {
            VotingFloor floor = withPeople("1+0");
            floor.minutes(one[0]);
            is("n in MINUTE " + one[0], wayOf(floor, 0, "n-" + one[1]), 0);
        }
    }

    private static void termsOfInts() {
        checks.about("terms: as ints");
        // 512 * 512 * 512 * 16 is 2 to the 31st: the least int
        ways("512*512*512*16", -1, "512*512*512*16-1", 1, "512*512*512*32", 0, "512*512*512*15", 1);
        ways("-(512*512*512*16)", -1, "512*512*512*16/-1", -1, "512*512*512*16*-1", -1, "512*512*512*16+0", -1);
        ways("512*512*512*16<0", 1, "0-512*512*512*16<0", 1, "512*512*512*16-1>0", 1, "512*512*512*16=-(512*512*512*16)", 1);
        ways("999*999*999*3", -1, "999*999*999*2", 1, "-999*999*999*3", 1);
        ways("512*512*512*16/0", 0, "512*512*512*16/-1/512", -1);
    }

    private static void termsOfMinutes() {
        checks.about("terms: not beyond 9, -9");
        for (int side : new int[] {1, -1}) {
            VotingFloor floor = Checks.placed("1+0", 8 * side);
            tell(floor, side > 0 ? "1" : "-1").rule();
            is("minutes(1) to the wall", floor.minutes(1), 2000 + 9 * side);
            checks.rowIs(floor, 1, side > 0 ? 1 : 0, side > 0 ? 0 : 1);
            is("minutes(1) at the wall", floor.minutes(1), 2000 + 9 * side);
            checks.rowIs(floor, 0, side > 0 ? 1 : 0, side > 0 ? 0 : 1);
            is("one(0, 2)", floor.one(0, 2), 9 * side);
        }
        checks.about("terms: each who is not OFF walks");
        VotingFloor off = withPeople("1+9;1+9");
        off.steps(0);
        off.minutes(3);
        is("one(0, 2)", off.one(0, 2), 0);
        is("one(1, 2)", off.one(1, 2), 3);
        checks.about("terms: all as it is ahead of it");
        VotingFloor crowd = withPeople("1+0;1+0");
        tell(crowd, "q").rule();
        is("minutes(1) by q", crowd.minutes(1), 2002);
        VotingFloor moved = withPeople("1+0;1+0");
        tell(moved, "1-m").rule();
        is("minutes(1) by m", moved.minutes(1), 2002);
        is("minutes(1) by m, then back", moved.minutes(1), 2000);
        checks.about("terms: MINUTE is 1 more");
        VotingFloor nobody = new VotingFloor();
        nobody.minutes(1);
        is("count(2), nobody", nobody.count(2), 1);
        checks.about("terms: at first none: c-p");
        is("one(0, 5)", withPeople("1+1").one(0, 5), 1);
        is("one(0, 5), there", Checks.placed("1+1", 1).one(0, 5), 0);
        is("one(0, 5), beyond", Checks.placed("1+1", 2).one(0, 5), -1);
    }

    private static void termsOfTheRow() {
        checks.about("terms: ROW: numbers told last by a call that says so");
        checks.rowIs(new VotingFloor());
        VotingFloor floor = Checks.placed("5+3;2-9", 1);
        floor.tips();
        checks.rowIs(floor, 5, 0, 2);
        tell(floor, "1+1").people();
        tell(floor, "c").rule();
        floor.one(0, 0);
        floor.sheet(2, 3, 5, 0);
        floor.leads(1, 3);
        floor.sacks(0, 4);
        floor.steps(2);
        floor.turnsTo(0, 2);
        floor.noon(3);
        floor.undo();
        floor.seen(0, 0, 0);
        floor.forget();
        floor.heard(1, 1);
        floor.denies();
        floor.plank(9, 3);
        floor.keep(0);
        floor.again(0);
        checks.rowIs(floor, 5, 0, 2);
        floor.backs();
        checks.rowIs(floor);
        checks.about("terms: fractions are told in lowest terms (0 by 1)");
        VotingFloor half = Checks.placed("1+1", 1);
        half.faints(5);
        checks.rowIs(half, 1, 2);
        VotingFloor never = Checks.placed("1+1", -1);
        never.faints(5);
        checks.rowIs(never, 0, 1);
        VotingFloor ever = Checks.placed("1+1", 1);
        ever.faints(0);
        checks.rowIs(ever, 1, 1);
        checks.about("terms: rows are compared from the first number on");
        VotingFloor greatest = Checks.placed("2+1;2+1;2+1;2+1", 8, -3, 0, 0);
        greatest.leads(3, -9);
        // MOMENT is -8, each PLACE adds 2, and the first one has one PLACE to the wall
        is("walks(15)", greatest.walks(15), 5);
        checks.rowIs(greatest, 1, 4, 0, 0);
    }

    // ---- promises 1 to 3

    private static void newObject() {
        checks.about("1: no PEOPLE");
        VotingFloor floor = new VotingFloor();
        is("NONE", VotingFloor.NONE, -1);
        is("count(0)", floor.count(0), 0);
        is("count(1)", floor.count(1), 0);
        is("count(4)", floor.count(4), 2000);
        is("count(5)", floor.count(5), 0);
        is("count(8)", floor.count(8), 0);
        is("count(10)", floor.count(10), 0);
        checks.throwsAtOne(floor, 0, 0);
        is("again(0)", floor.again(0), false);
        is("undo()", floor.undo(), -1);
    }

    private static VotingFloor withSigns(int many) {
        VotingFloor floor = new VotingFloor();
        for (int k = 0; k < 20; k++) {
            floor.sign(0x312B313B);
        }
        floor.end(many);
        return floor;
    }

    private static void signs() {
        checks.about("2: how many it has");
        for (int many = 0; many <= 76; many++) {
            VotingFloor floor = withSigns(many);
            is("sign() behind " + many, floor.sign(0x312B313B), many + 4);
            is("count(10)", floor.count(10), many + 4);
        }
        checks.about("2: there would be more than 80");
        for (int many = 77; many <= 80; many++) {
            int before = many;
            edges.refused(() -> withSigns(before), "sign() behind " + many, -1, floor -> floor.sign(0x39393939));
        }
        checks.about("2: of v the highest byte first");
        VotingFloor order = new VotingFloor();
        order.sign(0x372D3400);
        order.end(3);
        is("people()", order.people(), 1);
        is("one(0, 0)", order.one(0, 0), 7);
        is("one(0, 1)", order.one(0, 1), -4);
        checks.about("2: signs behind one another");
        VotingFloor two = new VotingFloor();
        two.sign(0x372D3400);
        two.end(3);
        is("sign()", two.sign(0x3B312B32), 7);
        is("people()", two.people(), 2);
        is("one(1, 1)", two.one(1, 1), 2);
        checks.about("2: signs of 0 and above 127");
        for (int v : new int[] {0, 0x80808080, 0xFFFFFFFF, 0xB1ABB1BB}) {
            VotingFloor odd = new VotingFloor();
            is("sign()", odd.sign(v), 4);
            is("people()", odd.people(), -1);
            odd.sign(v);
            is("rule()", odd.rule(), -1);
            odd.sign(v);
            is("morning()", odd.morning(), -1);
            odd.sign(v);
            is("law()", odd.law(), -10000);
        }
    }

    private static void ends() {
        checks.about("3: THE TEXT has its first n signs alone");
        for (int n = 0; n <= 80; n++) {
            VotingFloor floor = withSigns(80);
            is("end(" + n + ")", floor.end(n), true);
            is("count(10)", floor.count(10), n);
        }
        VotingFloor first = new VotingFloor();
        first.sign(0x372D343B);
        first.sign(0x322B3200);
        is("end(3)", first.end(3), true);
        is("people()", first.people(), 1);
        is("one(0, 0): the first ones", first.one(0, 0), 7);
        is("end(0) of an empty one", new VotingFloor().end(0), true);
        checks.about("3: false if it has not so many");
        edges.refused("end(4) of 3", 0, floor -> floor.end(4) ? 1 : 0);
        edges.refused("end(80) of 3", 0, floor -> floor.end(80) ? 1 : 0);
        edges.refused(VotingFloor::new, "end(1) of an empty one", 0, floor -> floor.end(1) ? 1 : 0);
        edges.refused(() -> withSigns(80), "end(81) of 80", 0, floor -> floor.end(81) ? 1 : 0);
        VotingFloor cut = withSigns(8);
        cut.end(3);
        is("end(4): what was cut does not come back", cut.end(4), false);
        checks.about("3: or n is below 0");
        edges.refused("end(-1)", 0, floor -> floor.end(-1) ? 1 : 0);
        edges.refused(VotingFloor::new, "end(-1) of an empty one", 0, floor -> floor.end(-1) ? 1 : 0);
        for (int wild : Edges.WILD) {
            edges.refused("end(" + wild + ")", 0, floor -> floor.end(wild) ? 1 : 0);
        }
    }

    // ---- promise 4

    private static void people() {
        checks.about("4: an empty one: nothing");
        edges.refusedText("", 0, VotingFloor::people);
        edges.refusedText(VotingFloor::new, "", 0, VotingFloor::people);
        edges.refusedText(() -> withPeople(Edges.SEVEN), "", 0, VotingFloor::people);
        checks.about("4: how many LINES");
        String[] lines = {"9-9", "9-9;1+0", "9-9;1+0;1+0;1+0;1+0;1+0", "9-9;1+0;1+0;1+0;1+0;1+0;1+0"};
        int[] due = {1, 2, 6, 7};
        for (int k = 0; k < lines.length; k++) {
            VotingFloor floor = new VotingFloor();
            is("people() of " + lines[k], tell(floor, lines[k]).people(), due[k]);
            is("count(0)", floor.count(0), due[k]);
            is("count(10): it is read", floor.count(10), 0);
        }
        checks.about("4: the sign at p can't stand there");
        Object[][] bad = {
            {"0", 0}, {"+", 0}, {";", 0}, {" ", 0}, {"a", 0}, {":", 0}, {"/", 0}, {"0+1;1+1", 0}, {"11", 1}, {"1;", 1},
            {"1*1", 1}, {"1,1", 1}, {"1++", 2}, {"1+;", 2}, {"1+:", 2}, {"1-/", 2}, {"1+11", 3}, {"1+1+", 3}, {"1+1,", 3},
            {"1+1;;", 4}, {"1+1;0+1", 4}, {"1+1;1+1;1+x", 10}, {"1+1;1+1;1x1", 9},
        };
        for (Object[] one : bad) {
            edges.refusedText((String) one[0], -1 - (Integer) one[1], VotingFloor::people);
            edges.refusedText(VotingFloor::new, (String) one[0], -1 - (Integer) one[1], VotingFloor::people);
        }
        checks.about("4: its end, if it ends too early");
        String whole = "1+1;2-2;3+3";
        for (int n = 1; n < whole.length(); n++) {
            boolean early = n % 4 != 3;
            if (early) {
                edges.refusedText(whole.substring(0, n), -1 - n, VotingFloor::people);
            }
        }
    }

    private static void peopleWithoutRoom() {
        checks.about("4: the first sign of a LINE for which there is no room");
        String[] before = {"", "1+1", "1+1;1+1;1+1;1+1;1+1;1+1", Edges.SEVEN};
        int[] room = {7, 6, 1, 0};
        for (int k = 1; k < before.length; k++) {
            String some = before[k];
            int has = room[k];
            String fits = "2-2;".repeat(has);
            edges.refusedText(() -> withPeople(some), fits + "2-2", -1 - 4 * has, VotingFloor::people);
            edges.refusedText(() -> withPeople(some), fits + "x", -1 - 4 * has, VotingFloor::people);
            edges.refusedText(() -> withPeople(some), fits + "2-x", -1 - 4 * has, VotingFloor::people);
            edges.refusedText(() -> withPeople(some), fits + "2", -1 - 4 * has, VotingFloor::people);
            if (has > 0) {
                VotingFloor just = withPeople(some);
                String all = fits.substring(0, 4 * has - 1);
                is("people() of " + all, tell(just, all).people(), has);
                is("count(0)", just.count(0), 7);
                edges.refusedText(() -> withPeople(some), fits, -1 - 4 * has, VotingFloor::people);
                edges.refusedText(() -> withPeople(some), "2-x;" + fits, -3, VotingFloor::people);
            }
        }
        checks.about("4: who is OFF has his room, too");
        VotingFloor off = withPeople("1+1;1+1;1+1;1+1");
        for (int i = 0; i < 4; i++) {
            off.steps(i);
        }
        is("people()", tell(off, "2-2;2-2;2-2;2-2").people(), -13);
        is("people()", tell(off, "2-2;2-3;2-4").people(), 3);
        is("count(0)", off.count(0), 7);
        is("count(1)", off.count(1), 0b1110000);
        is("one(6, 1)", off.one(6, 1), -4);
        checks.about("4: nothing of it comes, if a LINE can't");
        VotingFloor floor = withPeople("1+1;1+1;1+1;1+1;1+1");
        is("people()", tell(floor, "2-2;2-2;2-2").people(), -9);
        is("count(0)", floor.count(0), 5);
        is("people()", tell(floor, "2-2;2-x").people(), -7);
        is("count(0)", floor.count(0), 5);
        is("people()", tell(floor, "3-3;4-4").people(), 2);
        is("one(5, 0)", floor.one(5, 0), 3);
        is("one(6, 0)", floor.one(6, 0), 4);
    }

    private static void peopleTooMany() {
        checks.about("4: 27, if it has more and the first 27 could go on or end");
        String[] longer = {";", "1", "x", "1+1", ";1", ";1+1", ";1+1;1+1", ";0", ";".repeat(53)};
        for (String more : longer) {
            edges.refusedText(VotingFloor::new, Edges.SEVEN + more, -28, VotingFloor::people);
        }
        edges.refusedText(VotingFloor::new, "1+1;".repeat(20), -28, VotingFloor::people);
        is("of just 27", tell(new VotingFloor(), Edges.SEVEN).people(), 7);
        is("of just 26", tell(new VotingFloor(), Edges.SEVEN.substring(0, 26)).people(), -27);
        checks.about("4: the first 27 could not");
        edges.refusedText(VotingFloor::new, Edges.SEVEN.substring(0, 26) + "x;1+1", -27, VotingFloor::people);
        edges.refusedText(VotingFloor::new, "x" + "1+1;".repeat(19), -1, VotingFloor::people);
        edges.refusedText(() -> withPeople("1+1"), "1+1;".repeat(20), -25, VotingFloor::people);
    }

    // ---- promise 5

    private static void rules() {
        checks.about("5: an empty one: none");
        VotingFloor none = withPeople("1+3");
        tell(none, "-1").rule();
        is("one(0, 5)", none.one(0, 5), -1);
        is("rule()", tell(none, "").rule(), 0);
        is("one(0, 5)", none.one(0, 5), 1);
        none.leads(0, 3);
        is("one(0, 5), there", none.one(0, 5), 0);
        checks.about("5: the sign at p can't stand there");
        Object[][] bad = {
            {"+1", 0}, {"*1", 0}, {"/1", 0}, {"<1", 0}, {">1", 0}, {"=1", 0}, {")", 0}, {" 1", 0}, {"C", 0}, {"x", 0},
            {"()", 1}, {"(+1)", 1}, {"-+1", 1}, {"-)", 1}, {"1 ", 1}, {"1c", 1}, {"c1", 1}, {"cc", 1}, {"1(", 1}, {"c(1)", 1},
            {"1)", 1}, {"c~1", 1}, {"~1", 0}, {"c,", 1}, {"c+)", 2}, {"1++1", 2}, {"1+*1", 2}, {"1<>1", 2}, {"1==1", 2},
            {"1<=1", 2}, {"(1)1", 3}, {"(1)c", 3}, {"(1)(1)", 3}, {"(1))", 3}, {"1.5", 1}, {"1&1", 1}, {"!1", 0}, {"c;", 1},
            {"(1 )", 2}, {"(1&1)", 2}, {"(c(p))", 2}, {"(1!)", 2}, {"((c'", 3}, {"(c$", 2}, {"(1,1)", 2}, {"(c]", 2},
        };
        for (Object[] one : bad) {
            edges.refusedText((String) one[0], -1 - (Integer) one[1], VotingFloor::rule);
        }
        checks.about("5: its end, if it ends too early");
        String[] early = {"-", "--", "(", "((((", "(1", "(1+", "1+", "1-", "1*", "1/", "1<", "1>", "1=", "c--", "(c)*", "((c)"};
        for (String text : early) {
            edges.refusedText(text, -1 - text.length(), VotingFloor::rule);
        }
    }

    private static void rulesBehindOthers() {
        checks.about("5: what can't stand leaves nothing to the next one");
        String[] bad = {"-", "--", "((((", "(((1", "1<2<", "(1<2", "((1<2)<", "1-", "1*", "12", "1+12x", "0-(2*(1x", "q+"};
        String[][] good = {{"1", "1"}, {"((((1))))", "1"}, {"1<2", "1"}, {"((1<2)<3)<2", "1"}, {"-1", "-1"}, {"2-3", "-1"}, {"1+12-13", "0"}};
        for (String first : bad) {
            for (String[] second : good) {
                VotingFloor floor = withPeople("5+3");
                tell(floor, first).rule();
                is("rule() of " + second[0] + " behind " + first, tell(floor, second[0]).rule(), 0);
                is("one(0, 5)", floor.one(0, 5), Integer.parseInt(second[1]));
                tell(floor, first).law();
                is("law() of " + second[0] + " behind " + first, tell(floor, second[0]).law(), 5000);
            }
        }
    }

    private static void rulesTooLong() {
        checks.about("5: 40, if it has more and the first 40 could go on or end");
        is("of just 40", tell(new VotingFloor(), FORTY).rule(), 0);
        is("of just 39", tell(new VotingFloor(), FORTY.substring(0, 39)).rule(), 0);
        String[] longer = {"3", "+", "x", ")", "<1", "+1+1", "\0", "+1".repeat(20)};
        for (String more : longer) {
            edges.refusedText(FORTY + more, -41, VotingFloor::rule);
        }
        String open = FORTY.substring(0, 38);
        edges.refusedText(open + "1+1", -41, VotingFloor::rule);
        edges.refusedText(open + "(c)", -41, VotingFloor::rule);
        edges.refusedText(open + "--1", -41, VotingFloor::rule);
        edges.refusedText("-".repeat(80), -41, VotingFloor::rule);
        edges.refusedText("1+".repeat(40), -41, VotingFloor::rule);
        edges.refusedText("1+".repeat(18) + "-123" + "4", -41, VotingFloor::rule);
        checks.about("5: the first 40 could not");
        edges.refusedText(open + "1x+1", -40, VotingFloor::rule);
        edges.refusedText(open + "x1+1", -39, VotingFloor::rule);
        edges.refusedText("x" + "1+".repeat(39), -1, VotingFloor::rule);
        checks.about("5: 40 that end too early");
        edges.refusedText(open + "1+", -41, VotingFloor::rule);
        edges.refusedText("(" + FORTY.substring(0, 39), -41, VotingFloor::rule);
        edges.refusedText("-".repeat(40), -41, VotingFloor::rule);
        checks.about("5: THE RULE stays when one is refused, when PEOPLE come, when it is undone");
        VotingFloor floor = withPeople("1+3");
        tell(floor, "-1").rule();
        floor.keep(0);
        floor.minutes(1);
        tell(floor, "1+").rule();
        is("one(0, 5), refused", floor.one(0, 5), -1);
        floor.undo();
        is("one(0, 5), undone", floor.one(0, 5), -1);
        tell(floor, "1").rule();
        floor.again(0);
        is("one(0, 5), not brought back", floor.one(0, 5), 1);
        tell(floor, "1-3").people();
        is("one(1, 5), who came", floor.one(1, 5), 1);
    }

    // ---- promises 6 and 7

    private static void ones() {
        checks.about("6: which way he walks now, at that wall");
        for (int side : new int[] {1, -1}) {
            String there = side > 0 ? "1" : "-1";
            String back = side > 0 ? "-1" : "1";
            is("there", wayOf(Checks.placed("1+0", 9 * side), 0, there), 0);
            is("back", wayOf(Checks.placed("1+0", 9 * side), 0, back), -side);
            is("just ahead of it", wayOf(Checks.placed("1+0", 8 * side), 0, there), side);
        }
        VotingFloor off = withPeople("1+9");
        off.steps(0);
        is("one(0, 4), OFF", off.one(0, 4), 1);
        is("one(0, 5), OFF", off.one(0, 5), 0);
        checks.about("6: NoSuchElementException: none such");
        edges.thrown("one(3, 0)", floor -> floor.one(3, 0));
        edges.thrown("one(-1, 0)", floor -> floor.one(-1, 0));
        edges.thrown("one(3, 5)", floor -> floor.one(3, 5));
        checks.throwsAtOne(new VotingFloor(), 0, 5);
        checks.throwsAtOne(withPeople(Edges.SEVEN), 7, 2);
        checks.about("6: NoSuchElementException: another what");
        edges.thrown("one(0, 6)", floor -> floor.one(0, 6));
        edges.thrown("one(0, -1)", floor -> floor.one(0, -1));
        edges.thrown("one(3, 6)", floor -> floor.one(3, 6));
        for (int wild : Edges.WILD) {
            edges.thrown("one(" + wild + ", 0)", floor -> floor.one(wild, 0));
            edges.thrown("one(0, " + wild + ")", floor -> floor.one(0, wild));
        }
    }

    private static void sheetsRefused() {
        checks.about("7: NONE: another kind, n above 7 (these first)");
        int[][] none = {{-1, 0}, {4, 0}, {4, -1}, {-1, 8}, {0, 8}, {1, 8}, {2, 8}, {3, 8}, {Integer.MIN_VALUE, -1}, {Integer.MAX_VALUE, 3}};
        for (int[] one : none) {
            edges.refused("sheet(" + one[0] + ", " + one[1] + ", 9, 0)", -1, floor -> floor.sheet(one[0], one[1], 9, 0));
        }
        edges.refused("sheet(3, MAX, ..)", -1, floor -> floor.sheet(3, Integer.MAX_VALUE, 9, 0));
        checks.about("7: -2: n below 0 (of kinds 0 .. 2; nothing changes)");
        for (int kind = 0; kind <= 2; kind++) {
            int one = kind;
            edges.refused("sheet(" + kind + ", -1, 9, 0)", -2, floor -> floor.sheet(one, -1, 9, 0));
            edges.refused("sheet(" + kind + ", MIN, 9, 0)", -2, floor -> floor.sheet(one, Integer.MIN_VALUE, 9, 0));
        }
        checks.about("7: -3: missing (all 1)");
        for (int n : new int[] {Integer.MIN_VALUE, -1, 0, 3, 7}) {
            VotingFloor floor = withPeople("5+3;2-9;9+1");
            is("sheet(3, " + n + ", 9, 0)", floor.sheet(3, n, 9, 0), -3);
            weightsAre(floor, 1, 1, 1);
        }
        is("sheet(3, 0, 0, 0), nobody", new VotingFloor().sheet(3, 0, 0, 0), -3);
        checks.about("7: those behind it have 1");
        for (int n = 0; n <= 7; n++) {
            VotingFloor floor = withPeople("9+1;9+1;9+1;9+1;9+1;9+1;9+1");
            is("sheet(2, " + n + ", 5, 0)", floor.sheet(2, n, 5, 0), 5 * n + 7 - n);
            is("one(6, 0)", floor.one(6, 0), n == 7 ? 5 : 1);
        }
        checks.about("7: more entries than PEOPLE");
        VotingFloor two = withPeople("9+1;9+1");
        is("sheet(2, 7, 3, 1)", two.sheet(2, 7, 3, 1), 7);
        tell(two, "8+1").people();
        is("one(2, 0): who comes has his own", two.one(2, 0), 8);
        is("sheet(2, 7, 3, 1), nobody", new VotingFloor().sheet(2, 7, 3, 1), 0);
    }

    private static void weightsAre(VotingFloor floor, int... due) {
        for (int i = 0; i < due.length; i++) {
            is("one(" + i + ", 0)", floor.one(i, 0), due[i]);
        }
    }

    private static void sheetOf(int kind, int f, int step, int... due) {
        VotingFloor floor = withPeople("5+3;2-9;7+1");
        int sum = 0;
        for (int weight : due) {
            sum += weight;
        }
        is("sheet(" + kind + ", 3, " + f + ", " + step + ")", floor.sheet(kind, 3, f, step), sum);
        weightsAre(floor, due);
    }

    private static void sheetsPutTo() {
        checks.about("7: put to 1 .. 9");
        for (int kind = 0; kind <= 2; kind++) {
            sheetOf(kind, 0, 1, 1, 1, 2);
            sheetOf(kind, 8, 1, 8, 9, 9);
            sheetOf(kind, -1, 1, 1, 1, 1);
            sheetOf(kind, 9, -4, 9, 5, 1);
            sheetOf(kind, 4, -5, 4, 1, 1);
            sheetOf(kind, 127, 0, 9, 9, 9);
        }
        checks.about("7: of bytes the lowest bits, with their sign");
        sheetOf(0, 126, 1, 9, 9, 1);
        sheetOf(0, 255, 1, 1, 1, 1);
        sheetOf(0, 255, 5, 1, 4, 9);
        sheetOf(0, 256 + 5, 256, 5, 5, 5);
        sheetOf(0, -256 + 5, 1, 5, 6, 7);
        sheetOf(0, -129, 1, 9, 1, 1);
        checks.about("7: of shorts the lowest bits, with their sign");
        sheetOf(1, 128, 1, 9, 9, 9);
        sheetOf(1, 261, 1, 9, 9, 9);
        sheetOf(1, 32766, 1, 9, 9, 1);
        sheetOf(1, 65535, 5, 1, 4, 9);
        sheetOf(1, 65536 + 5, 65536, 5, 5, 5);
        sheetOf(1, -65536 + 5, 1, 5, 6, 7);
        sheetOf(1, -32769, 1, 9, 1, 1);
        checks.about("7: ints as they are");
        sheetOf(2, 32768, 1, 9, 9, 9);
        sheetOf(2, 65536, 1, 9, 9, 9);
        sheetOf(2, -65536 + 5, 1, 1, 1, 1);
        sheetOf(2, Integer.MIN_VALUE, 1, 1, 1, 1);
        checks.about("7: f + step, .., with a wrap-around");
        sheetOf(2, Integer.MAX_VALUE, 1, 9, 1, 1);
        sheetOf(2, Integer.MIN_VALUE, -1, 1, 9, 9);
        sheetOf(2, 5, Integer.MAX_VALUE, 5, 1, 3);
        sheetOf(2, 5, Integer.MIN_VALUE, 5, 1, 5);
        sheetOf(0, Integer.MAX_VALUE, 5, 1, 4, 9);
        sheetOf(1, Integer.MAX_VALUE, 5, 1, 4, 9);
        checks.about("7: it is not undone");
        VotingFloor floor = withPeople("5+3");
        floor.keep(0);
        floor.minutes(1);
        floor.sheet(2, 1, 8, 0);
        is("count(8)", floor.count(8), 1);
        floor.undo();
        is("one(0, 0)", floor.one(0, 0), 8);
        floor.again(0);
        is("one(0, 0)", floor.one(0, 0), 8);
    }
}
