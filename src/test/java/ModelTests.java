import java.util.NoSuchElementException;
import java.util.Random;
import java.util.function.LongSupplier;

/** Random runs of calls, wild ones too, on the class and on its model: the same answers, the same state. */
public final class ModelTests {
    private static final int RUNS = 1500;
    private static final int CALLS = 110;
    private static final long THROWN = Long.MIN_VALUE;

    private final Checks checks;
    private final Random random;
    private final VotingFloor floor = new VotingFloor();
    private final FloorModel model = new FloorModel();
    /** How often it is tried what is refused. */
    private final int wildness;
    private final StringBuilder story = new StringBuilder();

    private ModelTests(Checks checks, long seed) {
        this.checks = checks;
        random = new Random(seed);
        wildness = seed % 3 == 0 ? 4 : 25;
    }

    public static void main(String[] args) {
        Checks checks = new Checks();
        for (int run = 0; run < RUNS; run++) {
            new ModelTests(checks, run).run(run);
        }
        checks.finish();
    }

    private void run(int number) {
        checks.about("run " + number);
        for (int k = 0; k < CALLS; k++) {
            call(k < 4 ? k == 0 ? 2 : random.nextInt(3) : random.nextInt(60));
            compareState();
        }
    }

    private static long answer(LongSupplier call) {
        try {
            return call.getAsLong();
        } catch (NoSuchElementException e) {
            return THROWN;
        }
    }

    private void both(String call, LongSupplier got, LongSupplier due) {
        story.append(call).append("; ");
        long is = answer(got);
        long want = answer(due);
        checks.is(call, is, want);
        if (is != want) {
            checks.fail("behind " + story);
        }
    }

    private void compareState() {
        for (int what = -1; what <= 11; what++) {
            int asked = what;
            same("count(" + what + ")", () -> floor.count(asked), () -> model.count(asked));
        }
        for (int i = -1; i <= model.row.size(); i++) {
            int asked = i;
            same("row(" + i + ")", () -> floor.row(asked), () -> model.row(asked));
        }
        for (int i = 0; i < model.now.all.size(); i++) {
            for (int what = 0; what <= 5; what++) {
                int who = i;
                int asked = what;
                same("one(" + i + ", " + what + ")", () -> floor.one(who, asked), () -> model.one(who, asked));
            }
        }
    }

    private void same(String call, LongSupplier got, LongSupplier due) {
        long is = answer(got);
        long want = answer(due);
        checks.is(call, is, want);
        if (is != want) {
            checks.fail("behind " + story);
        }
    }

    // ---- what is drawn

    private boolean wild() {
        return random.nextInt(wildness) == 0;
    }

    private int any(int least, int most) {
        if (wild()) {
            int[] odd = {least - 1, most + 1, -1, -2, Integer.MIN_VALUE, Integer.MAX_VALUE, random.nextInt()};
            return odd[random.nextInt(odd.length)];
        }
        return least + random.nextInt(most - least + 1);
    }

    private int who() {
        return any(0, Math.max(0, model.now.all.size() - 1));
    }

    private String oneOf(String... all) {
        return all[random.nextInt(all.length)];
    }

    private String digit() {
        return "" + random.nextInt(10);
    }

    private String lines() {
        StringBuilder text = new StringBuilder();
        int many = random.nextInt(wild() ? 10 : 5);
        for (int k = 0; k < many; k++) {
            text.append(k == 0 ? "" : ";").append(1 + random.nextInt(9)).append(oneOf("+", "-")).append(digit());
        }
        return spoilt(text.toString());
    }

    private String expression(int depth) {
        switch (random.nextInt(depth > 5 ? 3 : 11)) {
            case 0:
            case 1:
                return oneOf("c", "p", "w", "m", "q", "i", "n");
            case 2:
                return "" + random.nextInt(random.nextBoolean() ? 12 : 1000);
            case 3:
                return "-" + expression(depth + 1);
            case 4:
            case 5:
                return "(" + expression(depth + 1) + ")";
            case 6:
                return expression(depth + 1) + oneOf("<", ">", "=") + expression(depth + 1);
            default:
                return expression(depth + 1) + oneOf("+", "-", "*", "/") + expression(depth + 1);
        }
    }

    private String ruleText() {
        if (random.nextInt(8) == 0) {
            return "";
        }
        String text = random.nextInt(3) == 0
            ? oneOf("c-p", "c-p+q", "c*2-p-m/20", "(c>p)-(c<p)-(q>1)", "(n<4)*2-1", "c-p-(m>9)*i", "1-(w>5)*2", "c+n-6-p")
            : expression(0);
        return spoilt(text.length() > 60 ? text.substring(0, 45) : text);
    }

    private String morningText() {
        StringBuilder text = new StringBuilder();
        int acts = random.nextInt(wild() ? 30 : 7);
        for (int k = 0; k < acts; k++) {
            String him = "" + (wild() ? random.nextInt(10) : random.nextInt(Math.max(1, model.now.all.size())));
            text.append(oneOf("n" + digit(), "l" + him + oneOf("e", "w") + digit(), "s" + him + digit(), "o" + him,
                "t" + him + oneOf("+", "-") + digit()));
        }
        return spoilt(text.toString());
    }

    /** Now and then a sign is lost, doubled or another one. */
    private String spoilt(String text) {
        String cut = text.length() > 80 ? text.substring(0, 80) : text;
        if (!wild() || cut.isEmpty()) {
            return cut;
        }
        int at = random.nextInt(cut.length());
        String signs = "cpwmqin0123456789+-*/<>=();lesotx ~";
        String other = random.nextInt(6) == 0 ? "" + (char) random.nextInt(256)
            : "" + signs.charAt(random.nextInt(signs.length()));
        String ahead = cut.substring(0, at);
        switch (random.nextInt(4)) {
            case 0:
                return ahead;
            case 1:
                return ahead + cut.substring(at + 1);
            case 2:
                return ahead + other + cut.substring(at + 1);
            default:
                String longer = ahead + other + cut.substring(at);
                return longer.length() > 80 ? longer.substring(0, 80) : longer;
        }
    }

    private void tell(String text) {
        story.append('"').append(text).append("\" ");
        Checks.tell(floor, text);
        model.text.setLength(0);
        model.text.append(text);
    }

    // ---- calls

    private void call(int which) {
        switch (which / 10) {
            case 0:
                firstCalls(which % 10);
                break;
            case 1:
                acts(which % 10);
                break;
            case 2:
                tippings(which % 10);
                break;
            case 3:
                sets(which % 10);
                break;
            case 4:
                guesses(which % 10);
                break;
            default:
                lastCalls(which % 10);
                break;
        }
    }

    private void firstCalls(int which) {
        int a = random.nextInt(4) == 0 ? any(0, 80) : any(0, 5);
        int v = random.nextInt();
        int kind = any(0, 3);
        int n = any(-1, 7);
        int f = random.nextBoolean() ? any(-3, 12) : random.nextInt();
        int step = random.nextBoolean() ? any(-3, 3) : random.nextInt();
        int him = who();
        switch (which) {
            case 0:
            case 1:
                tell(ruleText());
                both("rule()", floor::rule, model::rule);
                break;
            case 2:
                tell(lines());
                both("people()", floor::people, model::people);
                break;
            case 3:
                both("end(" + a + ")", () -> floor.end(a) ? 1 : 0, () -> model.end(a) ? 1 : 0);
                break;
            case 4:
                for (int k = random.nextInt(25); k >= 0; k--) {
                    both("sign(" + v + ")", () -> floor.sign(v), () -> model.sign(v));
                }
                break;
            case 5:
                both("sheet(" + kind + ", " + n + ", " + f + ", " + step + ")", () -> floor.sheet(kind, n, f, step),
                    () -> model.sheet(kind, n, f, step));
                break;
            case 6:
                both("one(" + him + ", " + a + ")", () -> floor.one(him, a), () -> model.one(him, a));
                break;
            case 7:
            case 8:
                tell(morningText());
                both("morning()", floor::morning, model::morning);
                break;
            default:
                both("undo()", floor::undo, model::undo);
                break;
        }
    }

    private void acts(int which) {
        int him = who();
        int place = any(-9, 9);
        int sack = any(0, 9);
        int n = random.nextInt(3) == 0 ? any(0, 60) : any(0, 6);
        int hour = any(1, 60);
        switch (which) {
            case 0:
            case 1:
                both("minutes(" + n + ")", () -> floor.minutes(n), () -> model.minutes(n));
                break;
            case 2:
            case 3:
                both("leads(" + him + ", " + place + ")", () -> floor.leads(him, place), () -> model.leads(him, place));
                break;
            case 4:
            case 5:
                both("sacks(" + him + ", " + sack + ")", () -> floor.sacks(him, sack), () -> model.sacks(him, sack));
                break;
            case 6:
                both("steps(" + him + ")", () -> floor.steps(him), () -> model.steps(him));
                break;
            case 7:
                both("turnsTo(" + him + ", " + place + ")", () -> floor.turnsTo(him, place),
                    () -> model.turnsTo(him, place));
                break;
            case 8:
                both("noon(" + hour + ")", () -> floor.noon(hour), () -> model.noon(hour));
                break;
            default:
                both("undo()", floor::undo, model::undo);
                break;
        }
    }

    private void tippings(int which) {
        int him = who();
        int n = any(0, 60);
        switch (which) {
            case 0:
                both("tips()", floor::tips, model::tips);
                break;
            case 1:
            case 2:
                both("later(" + him + ", " + n + ")", () -> floor.later(him, n), () -> model.later(him, n));
                break;
            case 3:
                both("decides()", floor::decides, model::decides);
                break;
            case 4:
            case 5:
                both("spares()", floor::spares, model::spares);
                break;
            case 6:
                both("swings()", floor::swings, model::swings);
                break;
            case 7:
                both("level()", floor::level, model::level);
                break;
            case 8:
                both("rest()", floor::rest, model::rest);
                break;
            default:
                both("strongest()", floor::strongest, model::strongest);
                break;
        }
    }

    private void sets(int which) {
        int him = who();
        int on = model.count(1);
        int some = wild() ? random.nextInt(256) - 64 : random.nextInt(128) & on;
        int v = random.nextInt(3) == 0 ? any(0, 99) : any(0, 30);
        switch (which) {
            case 0:
            case 1:
                both("walks(" + some + ")", () -> floor.walks(some), () -> model.walks(some));
                break;
            case 2:
                both("wall()", floor::wall, model::wall);
                break;
            case 3:
                both("bears(" + him + ")", () -> floor.bears(him), () -> model.bears(him));
                break;
            case 4:
                both("canvass()", floor::canvass, model::canvass);
                break;
            case 5:
                both("clears()", floor::clears, model::clears);
                break;
            case 6:
                both("heads()", floor::heads, model::heads);
                break;
            case 7:
                both("power(" + him + ")", () -> floor.power(him), () -> model.power(him));
                break;
            default:
                both("just(" + v + ")", () -> floor.just(v), () -> model.just(v));
                break;
        }
    }

    private void guesses(int which) {
        int him = who();
        int n = any(0, 20);
        int place = random.nextInt(4) == 0 || n < 0 || n > 20 || model.now.all.isEmpty() ? any(-9, 9)
            : model.now.in(n, model.rule).all.get(Math.floorMod(him, model.now.all.size())).place;
        int what = any(0, 4);
        int v = any(0, what == 0 ? 18 : what == 2 ? 9 : 1);
        switch (which) {
            case 0:
            case 1:
                both("seen(" + him + ", " + n + ", " + place + ")", () -> floor.seen(him, n, place),
                    () -> model.seen(him, n, place));
                break;
            case 2:
            case 3:
                both("cares(" + him + ")", () -> floor.cares(him), () -> model.cares(him));
                break;
            case 4:
                both("looks(" + him + ")", () -> floor.looks(him), () -> model.looks(him));
                break;
            case 5:
            case 6:
                both("heard(" + what + ", " + v + ")", () -> floor.heard(what, v), () -> model.heard(what, v));
                break;
            case 7:
                both("fits()", floor::fits, model::fits);
                break;
            case 8:
                both("asks()", floor::asks, model::asks);
                break;
            default:
                if (random.nextBoolean()) {
                    both("forget()", floor::forget, model::forget);
                } else {
                    both("denies()", floor::denies, model::denies);
                }
                break;
        }
    }

    private void lastCalls(int which) {
        int p = any(0, 10);
        int n = any(0, 60);
        int k = any(2, 9);
        int v = any(0, 20);
        int seed = random.nextInt();
        int i = any(0, 2);
        switch (which) {
            case 0:
                both("faints(" + p + ")", () -> floor.faints(p), () -> model.faints(p));
                break;
            case 1:
                both("plank(" + n + ", " + k + ")", () -> floor.plank(n, k), () -> model.plank(n, k));
                break;
            case 2:
                tell(ruleText());
                both("law()", floor::law, model::law);
                break;
            case 3:
                both("crossings(" + v + ")", () -> floor.crossings(v), () -> model.crossings(v));
                break;
            case 4:
                both("years(" + seed + ", " + n + ")", () -> floor.years(seed, n), () -> model.years(seed, n));
                break;
            case 5:
                both("keep(" + i + ")", () -> floor.keep(i) ? 1 : 0, () -> model.keep(i) ? 1 : 0);
                break;
            case 6:
                both("again(" + i + ")", () -> floor.again(i) ? 1 : 0, () -> model.again(i) ? 1 : 0);
                break;
            case 7:
                both("farthest()", floor::farthest, model::farthest);
                // else the ROW of the one would be gone, unseen, behind the other
                compareState();
                both("line()", floor::line, model::line);
                break;
            case 8:
                both("backs()", floor::backs, model::backs);
                break;
            default:
                both("crowd()", floor::crowd, model::crowd);
                break;
        }
    }
}
