import java.util.NoSuchElementException;

/** A floor hung at its middle, on which a canton decides by where its people stand at noon. */
public final class VotingFloor {
    public static final int NONE = -1;

    /** What a call answers that finds nothing, or finds it so already. */
    private static final int NOTHING = -2;
    /** What a reader of a text answers, if every sign can stand where it is. */
    private static final int FINE = -1;
    private static final int MOST_PEOPLE = 7;
    private static final int WALL = 9;
    private static final int PLACES = 2 * WALL + 1;
    private static final int LONGEST = 60;
    private static final int LOOKS = 20;
    private static final int HEAVIEST = 18;

    private final Floor floor = new Floor();
    /** A floor on which it is tried how it would be. */
    private final Floor trial = new Floor();
    private final Rule custom = new Rule();
    /** The rule that a text tells, till it is known that it can stand. */
    private final Rule draft = new Rule();
    private final Text text = new Text();
    private final Told told = new Told();
    private final Past past = new Past();
    private final Sums sums = new Sums();
    private final Strides strides = new Strides();
    private final Sightings sightings = new Sightings();
    private final Hearsay hearsay = new Hearsay();
    private final Draws draws = new Draws();
    /** By minutes from now: where one stands who is followed. */
    private final int[] track = new int[LOOKS + 1];
    /** By minutes from now and places: how many wishes would bring one there. */
    private final int[] crowds = new int[(LOOKS + 1) * PLACES];
    /** By feet that are left: the strides of the other one behind which the next one wins (bits). */
    private final int[] wins = new int[LONGEST + 1];

    public VotingFloor() {
    }

    // ---- people

    public int sign(int v) {
        return text.addFour(v) ? text.length : NONE;
    }

    public boolean end(int n) {
        return text.cut(n);
    }

    public int people() {
        int bad = text.badLineSign(MOST_PEOPLE - floor.size);
        int lines = (text.length + 1) / Text.LINE;
        if (bad == FINE && lines > 0) {
            for (int k = 0; k < lines; k++) {
                int at = k * Text.LINE;
                floor.join(text.digit(at), text.signed(at + 1, '-'));
            }
            past.loseAll();
        }
        text.clear();
        return bad == FINE ? lines : -1 - bad;
    }

    public int rule() {
        int bad = draft.read(text);
        text.clear();
        if (bad != FINE) {
            return -1 - bad;
        }
        custom.become(draft);
        return 0;
    }

    public int one(int one, int what) throws NoSuchElementException {
        if (!floor.has(one)) {
            throw new NoSuchElementException("none such");
        }
        switch (what) {
            case 0:
                return floor.weight[one];
            case 1:
                return floor.wish[one];
            case 2:
                return floor.place[one];
            case 3:
                return floor.sack[one];
            case 4:
                return floor.isOff(one) ? 1 : 0;
            case 5:
                return floor.wayOf(one, custom, floor.moment());
            default:
                throw new NoSuchElementException("another what");
        }
    }

    public int sheet(int kind, int n, int f, int step) {
        if (kind < 0 || kind > 3 || n > MOST_PEOPLE) {
            return NONE;
        }
        if (kind != 3 && n < 0) {
            return NOTHING;
        }
        int entries = kind == 3 ? 0 : n;
        int sum = 0;
        for (int i = 0; i < floor.size; i++) {
            floor.weight[i] = i < entries ? entryOf(kind, f + i * step) : 1;
            sum += floor.weight[i];
        }
        return kind == 3 ? -3 : sum;
    }

    private static int entryOf(int kind, int v) {
        int told = kind == 0 ? (byte) v : kind == 1 ? (short) v : v;
        return Math.min(9, Math.max(1, told));
    }

    // ---- minutes, what is done

    public int minutes(int n) {
        if (n < 0 || n > LONGEST) {
            return NONE;
        }
        past.note(floor);
        int walked = floor.go(n, custom);
        past.commit();
        told.begin();
        told.add(walked);
        told.add(Integer.bitCount(floor.standingOn(WALL)));
        told.add(Integer.bitCount(floor.standingOn(-WALL)));
        return 2000 + floor.moment();
    }

    public int leads(int one, int place) {
        past.note(floor);
        return committed(floor.lead(one, place));
    }

    public int sacks(int one, int v) {
        past.note(floor);
        return committed(floor.burden(one, v));
    }

    public int steps(int one) {
        past.note(floor);
        return committed(floor.stepOffOrOn(one));
    }

    public int turnsTo(int one, int v) {
        past.note(floor);
        return committed(floor.turn(one, v));
    }

    public int noon(int v) {
        past.note(floor);
        return committed(floor.setNoon(v));
    }

    /** Only what was done can be undone; answers below 0 tell that it was refused. */
    private int committed(int answer) {
        if (answer >= 0) {
            past.commit();
        }
        return answer;
    }

    public int morning() {
        int bad = text.badActSign();
        if (bad != FINE) {
            text.clear();
            return -1 - bad;
        }
        past.note(floor);
        int done = 0;
        int next = 0;
        boolean refused = false;
        for (int at = 0; at < text.length && !refused; at++) {
            if (at == next) {
                next += Text.actLength(text.at(at));
                refused = act(at) < 0;
                done += refused ? 0 : 1;
            }
        }
        if (done > 0) {
            past.commit();
        }
        text.clear();
        told.begin();
        told.add(refused ? 1 : 0);
        told.add(2000 + floor.moment());
        return done;
    }

    /** Does the act that is told from a sign on; below 0: it was refused. */
    private int act(int at) {
        int number = text.digit(at + 1);
        switch (text.at(at)) {
            case 'n':
                return floor.go(number, custom);
            case 'l':
                return floor.lead(number, text.signed(at + 2, 'w'));
            case 's':
                return floor.burden(number, text.digit(at + 2));
            case 'o':
                return floor.stepOffOrOn(number);
            case 't':
                return floor.turn(number, text.signed(at + 2, '-'));
            default:
                return NONE;
        }
    }

    public int undo() {
        return past.back(floor) ? past.held : NONE;
    }

    // ---- how it tips

    public int tips() {
        told.begin();
        told.add(floor.momentOnSide(1));
        told.add(floor.momentOnSide(-1));
        told.add(floor.loadOf(floor.standingOn(0)));
        return direction(floor.moment());
    }

    public int later(int one, int n) {
        if (!floor.has(one) || n < 0 || n > LONGEST) {
            return NONE;
        }
        trial.become(floor);
        trial.go(n, custom);
        told.begin();
        told.add(2000 + trial.moment());
        return 100 + trial.place[one];
    }

    public int decides() {
        trial.become(floor);
        int moment = trial.goTillNoon(custom);
        told.begin();
        told.add(2000 + moment);
        tellPlacesOfTrial();
        return direction(moment);
    }

    private void tellPlacesOfTrial() {
        for (int i = 0; i < trial.size; i++) {
            told.add(100 + trial.place[i]);
        }
    }

    public int spares() {
        int best = NOTHING;
        int most = 0;
        for (int i = 0; i < floor.size; i++) {
            if (!floor.isOff(i)) {
                trial.become(floor);
                trial.stepOffOrOn(i);
                int moment = trial.goTillNoon(custom);
                if (best == NOTHING || moment > most) {
                    best = i;
                    most = moment;
                }
            }
        }
        if (best != NOTHING) {
            trial.become(floor);
            told.begin();
            told.add(2000 + most);
            told.add(2000 + trial.goTillNoon(custom));
        }
        return best;
    }

    public int swings() {
        trial.become(floor);
        int now = direction(trial.moment());
        for (int n = 1; n <= LONGEST; n++) {
            trial.pass(custom);
            int then = direction(trial.moment());
            if (then != now) {
                told.begin();
                told.add(1 + then);
                return n;
            }
        }
        return NOTHING;
    }

    public int level() {
        trial.become(floor);
        told.begin();
        int found = 0;
        for (int n = 0; n <= LONGEST; n++) {
            if (trial.moment() == 0) {
                if (found == 0) {
                    told.add(n);
                }
                found++;
            }
            trial.pass(custom);
        }
        return found;
    }

    public int rest() {
        trial.become(floor);
        for (int n = 0; n <= LONGEST; n++) {
            int moment = trial.moment();
            if (trial.pass(custom) == 0) {
                told.begin();
                told.add(2000 + moment);
                return n;
            }
        }
        return NOTHING;
    }

    // ---- so that it is carried

    public int walks(int some) {
        if ((some & ~floor.present()) != 0) {
            return NONE;
        }
        strides.setOut(floor, some);
        int fewest = strides.fewest(1 - floor.moment());
        if (fewest == NOTHING) {
            return NOTHING;
        }
        told.begin();
        int left = fewest;
        int need = 1 - floor.moment();
        for (int i = 0; i < floor.size; i++) {
            int far = strides.farthestOf(i, left, need);
            told.add(far);
            left -= far;
            need -= far * floor.load(i);
        }
        return fewest;
    }

    public int wall() {
        sums.start(floor.present(), floor.moment());
        for (int i = 0; i < floor.size; i++) {
            sums.gain[i] = floor.load(i) * (WALL - floor.place[i]);
        }
        return tellFewest(false);
    }

    /** Tells the best set of the sums that are set out, and how many are in it. */
    private int tellFewest(boolean exactly) {
        if (!sums.search(exactly)) {
            return NOTHING;
        }
        told.begin();
        told.add(sums.best);
        return Integer.bitCount(sums.best);
    }

    public int bears(int one) {
        if (!floor.has(one)) {
            return NONE;
        }
        trial.become(floor);
        for (int v = 0; v <= 9; v++) {
            trial.sack[one] = v;
            int moment = trial.moment();
            if (moment > 0) {
                told.begin();
                told.add(2000 + moment);
                return v;
            }
        }
        return NOTHING;
    }

    public int canvass() {
        sums.start(floor.present(), floor.care());
        for (int i = 0; i < floor.size; i++) {
            sums.gain[i] = -2 * floor.load(i) * floor.wish[i];
        }
        return tellFewest(false);
    }

    public int clears() {
        sums.start(floor.present(), floor.moment());
        for (int i = 0; i < floor.size; i++) {
            sums.gain[i] = -floor.load(i) * floor.place[i];
        }
        return tellFewest(true);
    }

    public int heads() {
        int heads = 0;
        int loads = 0;
        int wishes = 0;
        for (int i = 0; i < floor.size; i++) {
            if (!floor.isOff(i)) {
                int side = direction(floor.wish[i]);
                heads += side;
                loads += side * floor.load(i);
                wishes += floor.wish[i];
            }
        }
        told.begin();
        told.add(1000 + loads);
        told.add(1000 + wishes);
        told.add(10000 + floor.care());
        return 100 + heads;
    }

    // ---- what somebody decides

    public int power(int one) {
        if (!floor.has(one)) {
            return NONE;
        }
        if (floor.isOff(one)) {
            return NOTHING;
        }
        int ways = waysDecidedBy(one);
        tellFraction(ways, 1 << Math.max(0, Integer.bitCount(floor.present()) - 1));
        return 0;
    }

    /** In how many ways of the others it hangs on one whether it is carried. */
    private int waysDecidedBy(int one) {
        int others = floor.present() & ~(1 << one);
        int allInWest = 0;
        int own = 0;
        for (int i = 0; i < floor.size; i++) {
            int reach = floor.load(i) * Math.abs(floor.wish[i]);
            sums.gain[i] = 2 * reach;
            if (i == one) {
                own = reach;
            } else if (!floor.isOff(i)) {
                allInWest -= reach;
            }
        }
        sums.start(others, allInWest);
        return sums.waysWithin(own);
    }

    public int strongest() {
        int best = NOTHING;
        int most = 0;
        int all = 0;
        for (int i = 0; i < floor.size; i++) {
            if (!floor.isOff(i)) {
                int ways = waysDecidedBy(i);
                all += ways;
                if (best == NOTHING || ways > most) {
                    best = i;
                    most = ways;
                }
            }
        }
        if (best != NOTHING) {
            told.begin();
            told.add(most);
            told.add(all);
        }
        return best;
    }

    public int just(int v) {
        if (v < 0 || v > 99) {
            return NONE;
        }
        sums.start(floor.present(), -v);
        for (int i = 0; i < floor.size; i++) {
            sums.gain[i] = floor.load(i);
        }
        int fewest = tellFewest(true);
        if (fewest != NOTHING) {
            told.add(sums.ways);
        }
        return fewest;
    }

    // ---- who stands where

    public int farthest() {
        int best = NOTHING;
        int far = -1;
        int alike = 0;
        for (int i = 0; i < floor.size; i++) {
            int his = Math.abs(floor.place[i]);
            if (!floor.isOff(i) && his > far) {
                best = i;
                far = his;
                alike = 1;
            } else if (!floor.isOff(i) && his == far) {
                alike++;
            }
        }
        if (best != NOTHING) {
            told.begin();
            told.add(far);
            told.add(alike);
        }
        return best;
    }

    public int line() {
        told.begin();
        for (int place = -WALL; place <= WALL; place++) {
            int there = floor.standingOn(place);
            for (int i = 0; i < floor.size; i++) {
                if (isIn(there, i)) {
                    told.add(i);
                }
            }
        }
        return told.length;
    }

    public int backs() {
        told.begin();
        int pairs = 0;
        for (int i = 0; i < floor.size; i++) {
            for (int j = i + 1; j < floor.size; j++) {
                if (floor.areBackToBack(i, j)) {
                    if (pairs == 0) {
                        told.add(i);
                        told.add(j);
                    }
                    pairs++;
                }
            }
        }
        return pairs;
    }

    public int crowd() {
        int most = 0;
        int where = 0;
        for (int place = -WALL; place <= WALL; place++) {
            int there = Integer.bitCount(floor.standingOn(place));
            if (there > most) {
                most = there;
                where = place;
            }
        }
        told.begin();
        if (most > 0) {
            told.add(100 + where);
            told.add(floor.standingOn(where));
        }
        return most;
    }

    // ---- how much one cares

    public int seen(int one, int n, int place) {
        if (!floor.has(one) || n < 0 || n > LOOKS || place < -WALL || place > WALL) {
            return NONE;
        }
        return sightings.add(one, n, place) ? sightings.length : NONE;
    }

    public int forget() {
        int were = sightings.length;
        sightings.length = 0;
        return were;
    }

    public int cares(int one) {
        if (!floor.has(one)) {
            return NONE;
        }
        int last = sightings.latest();
        int wishes = 0;
        int least = 0;
        int greatest = 0;
        for (int wish = -9; wish <= 9; wish++) {
            if (couldWish(one, wish, last)) {
                least = wishes == 0 ? wish : least;
                greatest = wish;
                wishes |= 1 << (9 + wish);
            }
        }
        told.begin();
        told.add(Integer.bitCount(wishes));
        if (wishes != 0) {
            told.add(100 + least);
            told.add(100 + greatest);
        }
        return wishes;
    }

    /** Whether all would be as it was seen, if one wished so much; his track so many minutes on. */
    private boolean couldWish(int one, int wish, int last) {
        trial.become(floor);
        trial.turn(one, wish);
        for (int n = 0; n <= last && n <= LOOKS; n++) {
            if (n > 0) {
                trial.pass(custom);
            }
            if (!sightings.agree(n, trial)) {
                return false;
            }
            track[n] = trial.placeOf(one);
        }
        return true;
    }

    public int looks(int one) {
        if (!floor.has(one)) {
            return NONE;
        }
        if (!gatherCrowds(one)) {
            return NOTHING;
        }
        int best = 0;
        int fewest = mostOnOnePlace(0);
        for (int n = 1; n <= LOOKS; n++) {
            int most = mostOnOnePlace(n);
            if (most < fewest) {
                best = n;
                fewest = most;
            }
        }
        told.begin();
        told.add(fewest);
        return best;
    }

    /** Counts by minutes and places the wishes that one can have; false: there is none. */
    private boolean gatherCrowds(int one) {
        for (int k = 0; k < crowds.length; k++) {
            crowds[k] = 0;
        }
        boolean any = false;
        for (int wish = -9; wish <= 9; wish++) {
            if (couldWish(one, wish, LOOKS)) {
                any = true;
                for (int n = 0; n <= LOOKS; n++) {
                    crowds[n * PLACES + WALL + track[n]]++;
                }
            }
        }
        return any;
    }

    private int mostOnOnePlace(int n) {
        int most = 0;
        for (int k = 0; k < PLACES; k++) {
            most = Math.max(most, crowds[n * PLACES + k]);
        }
        return most;
    }

    // ---- which one it was

    public int heard(int what, int v) {
        if (!Hearsay.mayBe(what, v)) {
            return NONE;
        }
        return hearsay.add(what, v) ? hearsay.length : NONE;
    }

    public int denies() {
        int were = hearsay.length;
        hearsay.length = 0;
        return were;
    }

    public int fits() {
        int fitting = hearsay.fitting(floor);
        told.begin();
        told.add(Integer.bitCount(fitting));
        return fitting;
    }

    public int asks() {
        int fitting = hearsay.fitting(floor);
        if (fitting == 0) {
            return NOTHING;
        }
        int best = NOTHING;
        int fewest = 0;
        for (int what = 0; what < Hearsay.KINDS; what++) {
            for (int v = 0; v <= HEAVIEST; v++) {
                if (Hearsay.mayBe(what, v)) {
                    int left = Hearsay.leftAtMost(floor, fitting, what, v);
                    if (best == NOTHING || left < fewest) {
                        best = 20 * what + v;
                        fewest = left;
                    }
                }
            }
        }
        told.begin();
        told.add(fewest);
        return best;
    }

    // ---- faints, a plank

    public int faints(int p) {
        if (p < 0 || p > 10) {
            return NONE;
        }
        int present = floor.present();
        int many = Integer.bitCount(present);
        sums.start(present, floor.moment());
        for (int i = 0; i < floor.size; i++) {
            sums.gain[i] = -floor.load(i) * floor.place[i];
        }
        long chance = 0;
        for (int set = 0; set <= present; set++) {
            if ((set & ~present) == 0 && sums.total(set) > 0) {
                int fainted = Integer.bitCount(set);
                chance += raised(p, fainted) * raised(10 - p, many - fainted);
            }
        }
        tellFraction(chance, raised(10, many));
        return 0;
    }

    private static long raised(int base, int times) {
        long product = 1;
        for (int k = 0; k < times; k++) {
            product *= base;
        }
        return product;
    }

    /** Neither number is below 0, and the lower one is above. */
    private void tellFraction(long upper, long lower) {
        long a = lower;
        long b = upper;
        for (int k = 0; k < 100 && b != 0; k++) {
            long left = a % b;
            a = b;
            b = left;
        }
        long common = a > 0 ? a : 1;
        told.begin();
        told.add(upper / common);
        told.add(lower / common);
    }

    public int plank(int n, int k) {
        if (n < 0 || n > LONGEST || k < 2 || k > 9) {
            return NONE;
        }
        for (int left = 0; left <= n; left++) {
            wins[left] = 0;
            for (int last = 0; last <= k; last++) {
                if (winningStride(left, k, last) > 0) {
                    wins[left] |= 1 << last;
                }
            }
        }
        return winningStride(n, k, 0);
    }

    /** The least stride by which the next one wins, when the other one has just gone that far; 0: none. */
    private int winningStride(int left, int k, int last) {
        for (int stride = 1; stride <= k && stride <= left; stride++) {
            if (stride != last && !isIn(wins[left - stride], stride)) {
                return stride;
            }
        }
        return 0;
    }

    // ---- laws, crossings, years

    public int law() {
        int bad = draft.read(text);
        text.clear();
        if (bad != FINE) {
            return -10000 - bad;
        }
        trial.become(floor);
        int asItIs = trial.goTillNoon(custom);
        trial.become(floor);
        int byIt = trial.goTillNoon(draft);
        told.begin();
        told.add(1 + direction(byIt));
        told.add(1 + direction(asItIs));
        tellPlacesOfTrial();
        return 5000 + byIt - asItIs;
    }

    public int crossings(int v) {
        if (v < 0 || v > 20) {
            return NONE;
        }
        told.begin();
        int pairs = 0;
        for (int x = 0; x <= 9; x++) {
            for (int y = 0; y <= 9; y++) {
                if (isBest(x, y, v) && isBest(y, x, v)) {
                    if (pairs == 0) {
                        told.add(x);
                        told.add(y);
                    }
                    pairs++;
                }
            }
        }
        return pairs;
    }

    /** Whether one who goes x against y would have no more by another number. */
    private static boolean isBest(int x, int y, int v) {
        for (int other = 0; other <= 9; other++) {
            if (gained(other, y, v) > gained(x, y, v)) {
                return false;
            }
        }
        return true;
    }

    private static int gained(int x, int y, int v) {
        if (x == y) {
            return -(x / 2);
        }
        return x > y ? v - (x + y) / 3 : 0;
    }

    public int years(int seed, int n) {
        if (n < 1 || n > LONGEST) {
            return NONE;
        }
        trial.become(floor);
        draws.start(seed);
        int carried = 0;
        for (int k = 0; k < n; k++) {
            drawYear();
            carried += trial.moment() > 0 ? 1 : 0;
        }
        told.begin();
        told.add(carried);
        told.add(trial.present());
        return 2000 + trial.moment();
    }

    private void drawYear() {
        int drawn = draws.below(4);
        if (drawn < 2) {
            trial.pass(custom);
        } else if (trial.size > 0) {
            int who = draws.below(trial.size);
            if (drawn == 2) {
                trial.burden(who, draws.below(10));
            } else {
                trial.stepOffOrOn(who);
            }
        }
    }

    // ---- kept

    public boolean keep(int i) {
        return past.shelve(i, floor);
    }

    public boolean again(int i) {
        return past.takeDown(i, floor);
    }

    public int count(int what) {
        switch (what) {
            case 0:
                return floor.size;
            case 1:
                return floor.present();
            case 2:
                return floor.minute;
            case 3:
                return floor.noonAt;
            case 4:
                return 2000 + floor.moment();
            case 5:
                return floor.loadOf(floor.present());
            case 6:
                return sightings.length;
            case 7:
                return hearsay.length;
            case 8:
                return past.held;
            case 9:
                return told.length;
            case 10:
                return text.length;
            default:
                return -100;
        }
    }

    public long row(int i) throws NoSuchElementException {
        if (i < 0 || i >= told.length) {
            throw new NoSuchElementException("none such");
        }
        return told.numbers[i];
    }

    private static int direction(int v) {
        return v > 0 ? 1 : v < 0 ? -1 : 0;
    }

    private static boolean isIn(int set, int i) {
        return (set >> i & 1) != 0;
    }

    /** THE TEXT, and which of its signs can't stand where they are. */
    private static final class Text {
        static final int LINE = 4;
        private static final int MOST_SIGNS = 80;
        private static final int MOST_OF_PEOPLE = 27;
        private static final int MOST_OF_MORNING = 60;

        private final char[] signs = new char[MOST_SIGNS];
        int length = 0;

        boolean addFour(int v) {
            if (length + 4 > MOST_SIGNS) {
                return false;
            }
            for (int shift = 24; shift >= 0; shift -= 8) {
                signs[length] = (char) (v >>> shift & 255);
                length++;
            }
            return true;
        }

        boolean cut(int n) {
            if (n < 0 || n > length) {
                return false;
            }
            length = n;
            return true;
        }

        void clear() {
            length = 0;
        }

        /** The sign at a place; where there is none: 0, which can stand nowhere. */
        char at(int p) {
            return p >= 0 && p < length ? signs[p] : 0;
        }

        int digit(int p) {
            return at(p) - '0';
        }

        /** A digit behind a sign that tells which way. */
        int signed(int p, char less) {
            return at(p) == less ? -digit(p + 1) : digit(p + 1);
        }

        static boolean isDigit(char sign) {
            return sign >= '0' && sign <= '9';
        }

        int badLineSign(int room) {
            if (length == 0) {
                return FINE;
            }
            int limit = Math.min(length, MOST_OF_PEOPLE);
            for (int p = 0; p < limit; p++) {
                if (!standsInLine(p, room)) {
                    return p;
                }
            }
            return length > limit || limit % LINE != LINE - 1 ? limit : FINE;
        }

        private boolean standsInLine(int p, int room) {
            char sign = at(p);
            switch (p % LINE) {
                case 0:
                    return p / LINE < room && isDigit(sign) && sign != '0';
                case 1:
                    return sign == '+' || sign == '-';
                case 2:
                    return isDigit(sign);
                default:
                    return sign == ';';
            }
        }

        int badActSign() {
            int limit = Math.min(length, MOST_OF_MORNING);
            int start = 0;
            for (int p = 0; p < limit; p++) {
                if (!standsInAct(start, p)) {
                    return p;
                }
                if (p - start + 1 == actLength(at(start))) {
                    start = p + 1;
                }
            }
            return length > limit || start < limit ? limit : FINE;
        }

        private boolean standsInAct(int start, int p) {
            char act = at(start);
            char sign = at(p);
            if (p == start) {
                return actLength(act) > 1;
            }
            if (p == start + 2 && act == 'l') {
                return sign == 'e' || sign == 'w';
            }
            if (p == start + 2 && act == 't') {
                return sign == '+' || sign == '-';
            }
            return isDigit(sign);
        }

        /** How many signs tell an act; 1, if it is none. */
        static int actLength(char act) {
            switch (act) {
                case 'n':
                case 'o':
                    return 2;
                case 's':
                    return 3;
                case 'l':
                case 't':
                    return 4;
                default:
                    return 1;
            }
        }
    }

    /** The ROW. */
    private static final class Told {
        private static final int MOST_NUMBERS = 16;

        final long[] numbers = new long[MOST_NUMBERS];
        int length = 0;

        void begin() {
            length = 0;
        }

        void add(long number) {
            if (length < MOST_NUMBERS) {
                numbers[length] = number;
                length++;
            }
        }
    }

    /** Signs that wait, of which the last one put is the first one taken. */
    private static final class Pile {
        private final int[] signs = new int[Rule.MOST_SIGNS + 1];
        private int length = 0;

        void clear() {
            length = 0;
        }

        void push(int sign) {
            if (length < signs.length) {
                signs[length] = sign;
                length++;
            }
        }

        int pop() {
            if (length == 0) {
                return 0;
            }
            length--;
            return signs[length];
        }

        /** The one that pop() would take; 0, which is no sign that waits, if there is none. */
        int top() {
            return length > 0 ? signs[length - 1] : 0;
        }
    }

    /**
     * How one walks. It is held with each operation behind what it works on: numbers as they are, things
     * of one as -1, -2, .. in the order of THINGS, operations as their signs below 0.
     */
    private static final class Rule {
        static final int MOST_SIGNS = 40;
        static final int MANY_THINGS = 7;
        private static final String THINGS = "cpwmqin";
        private static final int CROWD = 4;
        private static final int DEEPEST = 4;
        private static final int MOST_DIGITS = 3;
        /** A minus ahead of a thing, which must differ from one between two. */
        private static final char NEGATE = '~';

        private final int[] code = new int[MOST_SIGNS + 1];
        private int length = 0;
        /** Whether it asks how many others stand there, which is dear to count. */
        boolean asksCrowd = false;
        private final int[] values = new int[MOST_SIGNS + 1];
        private final Pile waiting = new Pile();
        private boolean wantsThing = true;
        private int depth = 0;
        /** By depth: whether a comparison stands there already (bits). */
        private int compared = 0;
        /** How many digits the number has that may go on; 0: none may. */
        private int digits = 0;

        Rule() {
            becomeNone();
        }

        void become(Rule other) {
            for (int k = 0; k < other.length && k < code.length; k++) {
                code[k] = other.code[k];
            }
            length = other.length;
            asksCrowd = other.asksCrowd;
        }

        /** Becomes what a text tells: FINE, or where the sign is that can't stand there. */
        int read(Text text) {
            startReading();
            if (text.length == 0) {
                becomeNone();
                return FINE;
            }
            int limit = Math.min(text.length, MOST_SIGNS);
            for (int p = 0; p < limit; p++) {
                char sign = text.at(p);
                boolean stands = wantsThing ? takeThing(sign) : takeBehindThing(sign);
                if (!stands) {
                    return p;
                }
            }
            if (text.length > limit || wantsThing || depth > 0) {
                return limit;
            }
            emitWaiting(1);
            return FINE;
        }

        private void startReading() {
            length = 0;
            asksCrowd = false;
            waiting.clear();
            wantsThing = true;
            depth = 0;
            compared = 0;
            digits = 0;
        }

        private void becomeNone() {
            emit(-1);
            emit(-2);
            emit(-'-');
        }

        private void emit(int part) {
            if (length < code.length) {
                code[length] = part;
                length++;
            }
        }

        private boolean takeThing(char sign) {
            if (sign == '-') {
                waiting.push(NEGATE);
                return true;
            }
            if (sign == '(') {
                return open();
            }
            int thing = THINGS.indexOf(sign);
            if (Text.isDigit(sign)) {
                emit(sign - '0');
                digits = 1;
            } else if (thing >= 0) {
                emit(-1 - thing);
                asksCrowd |= thing == CROWD;
            } else {
                return false;
            }
            wantsThing = false;
            return true;
        }

        private boolean open() {
            if (depth >= DEEPEST) {
                return false;
            }
            waiting.push('(');
            depth++;
            compared &= ~(1 << depth);
            return true;
        }

        private boolean takeBehindThing(char sign) {
            if (Text.isDigit(sign)) {
                return takeDigit(sign - '0');
            }
            digits = 0;
            if (sign == ')') {
                return close();
            }
            int rank = rankOf(sign);
            if (rank < 1 || sign == NEGATE || rank == 1 && isIn(compared, depth)) {
                return false;
            }
            if (rank == 1) {
                compared |= 1 << depth;
            }
            emitWaiting(rank);
            waiting.push(sign);
            wantsThing = true;
            return true;
        }

        private boolean takeDigit(int digit) {
            if (digits < 1 || digits >= MOST_DIGITS || length < 1) {
                return false;
            }
            code[length - 1] = 10 * code[length - 1] + digit;
            digits++;
            return true;
        }

        private boolean close() {
            if (depth < 1) {
                return false;
            }
            emitWaiting(1);
            waiting.pop();
            depth--;
            return true;
        }

        /** What waits and binds as much or more is done first; an open bracket, and an empty pile, bind nothing. */
        private void emitWaiting(int rank) {
            for (int k = 0; k <= MOST_SIGNS && rankOf(waiting.top()) >= rank; k++) {
                emit(-waiting.pop());
            }
        }

        private static int rankOf(int sign) {
            switch (sign) {
                case '<':
                case '>':
                case '=':
                    return 1;
                case '+':
                case '-':
                    return 2;
                case '*':
                case '/':
                    return 3;
                case NEGATE:
                    return 4;
                default:
                    return 0;
            }
        }

        int value(int[] things) {
            int top = 0;
            for (int k = 0; k < length && k < code.length; k++) {
                int part = code[k];
                if (part >= -MANY_THINGS) {
                    if (top < values.length && -1 - part < things.length) {
                        values[top] = part >= 0 ? part : things[-1 - part];
                        top++;
                    }
                } else if (part == -NEGATE) {
                    if (top > 0) {
                        values[top - 1] = -values[top - 1];
                    }
                } else if (top > 1) {
                    top--;
                    values[top - 1] = done(-part, values[top - 1], values[top]);
                }
            }
            return top > 0 ? values[top - 1] : 0;
        }

        private static int done(int sign, int left, int right) {
            switch (sign) {
                case '+':
                    return left + right;
                case '-':
                    return left - right;
                case '*':
                    return left * right;
                case '/':
                    return right == 0 ? 0 : left / right;
                case '<':
                    return left < right ? 1 : 0;
                case '>':
                    return left > right ? 1 : 0;
                default:
                    return left == right ? 1 : 0;
            }
        }
    }

    /** PEOPLE on the floor, MINUTE and NOON. */
    private static final class Floor {
        /** How many numbers tell what can be brought back. */
        static final int WIDTH = 3 * MOST_PEOPLE + 3;

        int size = 0;
        final int[] weight = new int[MOST_PEOPLE];
        final int[] wish = new int[MOST_PEOPLE];
        final int[] place = new int[MOST_PEOPLE];
        final int[] sack = new int[MOST_PEOPLE];
        /** Who is OFF (bits). */
        private int off = 0;
        int minute = 0;
        int noonAt = 12;
        private final int[] ways = new int[MOST_PEOPLE];
        private final int[] things = new int[Rule.MANY_THINGS];

        boolean has(int one) {
            return one >= 0 && one < size;
        }

        void join(int hisWeight, int hisWish) {
            if (size < MOST_PEOPLE) {
                weight[size] = hisWeight;
                wish[size] = hisWish;
                place[size] = 0;
                sack[size] = 0;
                off &= ~(1 << size);
                size++;
            }
        }

        void become(Floor other) {
            size = other.size;
            for (int i = 0; i < MOST_PEOPLE; i++) {
                weight[i] = other.weight[i];
                wish[i] = other.wish[i];
                place[i] = other.place[i];
                sack[i] = other.sack[i];
            }
            off = other.off;
            minute = other.minute;
            noonAt = other.noonAt;
        }

        void writeTo(int[] numbers, int from) {
            if (from < 0 || from + WIDTH > numbers.length) {
                return;
            }
            for (int i = 0; i < MOST_PEOPLE; i++) {
                numbers[from + 3 * i] = wish[i];
                numbers[from + 3 * i + 1] = place[i];
                numbers[from + 3 * i + 2] = sack[i];
            }
            numbers[from + WIDTH - 3] = off;
            numbers[from + WIDTH - 2] = minute;
            numbers[from + WIDTH - 1] = noonAt;
        }

        void readFrom(int[] numbers, int from) {
            if (from < 0 || from + WIDTH > numbers.length) {
                return;
            }
            for (int i = 0; i < MOST_PEOPLE; i++) {
                wish[i] = numbers[from + 3 * i];
                place[i] = numbers[from + 3 * i + 1];
                sack[i] = numbers[from + 3 * i + 2];
            }
            off = numbers[from + WIDTH - 3];
            minute = numbers[from + WIDTH - 2];
            noonAt = numbers[from + WIDTH - 1];
        }

        boolean isOff(int one) {
            return (off >> one & 1) != 0;
        }

        /** Who is not OFF (bits). */
        int present() {
            return (1 << size) - 1 & ~off;
        }

        int load(int one) {
            return has(one) ? weight[one] + sack[one] : 0;
        }

        int placeOf(int one) {
            return has(one) ? place[one] : 0;
        }

        int loadOf(int some) {
            int sum = 0;
            for (int i = 0; i < size; i++) {
                sum += isIn(some, i) ? weight[i] + sack[i] : 0;
            }
            return sum;
        }

        int moment() {
            int sum = 0;
            for (int i = 0; i < size; i++) {
                if ((off >> i & 1) == 0) {
                    sum += (weight[i] + sack[i]) * place[i];
                }
            }
            return sum;
        }

        /** MOMENT of those in the east (1) or in the west (-1), without its sign. */
        int momentOnSide(int side) {
            int sum = 0;
            for (int i = 0; i < size; i++) {
                if (!isOff(i) && place[i] * side > 0) {
                    sum += load(i) * place[i] * side;
                }
            }
            return sum;
        }

        /** LOAD times WISH of all who are not OFF. */
        int care() {
            int sum = 0;
            for (int i = 0; i < size; i++) {
                sum += isOff(i) ? 0 : load(i) * wish[i];
            }
            return sum;
        }

        /** Who is not OFF and stands there (bits). */
        int standingOn(int there) {
            int some = 0;
            for (int i = 0; i < size; i++) {
                if (!isOff(i) && place[i] == there) {
                    some |= 1 << i;
                }
            }
            return some;
        }

        boolean areBackToBack(int one, int other) {
            return !isOff(one) && !isOff(other) && placeOf(one) != 0
                && placeOf(one) == -placeOf(other) && load(one) == load(other);
        }

        int lead(int one, int to) {
            if (!has(one) || to < -WALL || to > WALL) {
                return NONE;
            }
            int far = Math.abs(to - place[one]);
            place[one] = to;
            return far == 0 ? NOTHING : far;
        }

        int burden(int one, int v) {
            if (!has(one) || v < 0 || v > 9) {
                return NONE;
            }
            int was = sack[one];
            sack[one] = v;
            return was == v ? NOTHING : was;
        }

        int stepOffOrOn(int one) {
            if (!has(one)) {
                return NONE;
            }
            off ^= 1 << one;
            return Integer.bitCount(present());
        }

        int turn(int one, int v) {
            if (!has(one) || v < -9 || v > 9) {
                return NONE;
            }
            int was = wish[one];
            wish[one] = v;
            return was == v ? NOTHING : 100 + was;
        }

        int setNoon(int v) {
            if (v < 1 || v > LONGEST) {
                return NONE;
            }
            int was = noonAt;
            noonAt = v;
            return was == v ? NOTHING : was;
        }

        /** Lets minutes go by: how many walked in them. */
        int go(int n, Rule rule) {
            int walked = 0;
            for (int k = 0; k < n; k++) {
                walked += pass(rule);
            }
            return walked;
        }

        /** Lets minutes go by till it is noon: MOMENT then. */
        int goTillNoon(Rule rule) {
            int n = noonAt - minute;
            for (int k = 0; k < n; k++) {
                pass(rule);
            }
            return moment();
        }

        /** Lets a minute go by: how many walked in it. */
        int pass(Rule rule) {
            int moment = moment();
            for (int i = 0; i < size; i++) {
                ways[i] = wayOf(i, rule, moment);
            }
            int walked = 0;
            for (int i = 0; i < size; i++) {
                place[i] += ways[i];
                walked += ways[i] == 0 ? 0 : 1;
            }
            minute++;
            return walked;
        }

        int wayOf(int one, Rule rule, int moment) {
            if (one < 0 || one >= size || (off >> one & 1) != 0) {
                return 0;
            }
            things[0] = wish[one];
            things[1] = place[one];
            things[2] = weight[one] + sack[one];
            things[3] = moment;
            things[4] = rule.asksCrowd ? Integer.bitCount(standingOn(place[one])) - 1 : 0;
            things[5] = one;
            things[6] = minute % 7;
            int way = direction(rule.value(things));
            return Math.abs(place[one] + way) > WALL ? 0 : way;
        }
    }

    /** What undo() and again() bring back. */
    private static final class Past {
        private static final int MOST_ACTS = 15;
        private static final int SLOTS = MOST_ACTS + 1;
        private static final int SHELVES = 3;

        /** One slot more than acts: there it is noted how it was, till it is known that an act was done. */
        private final int[] slots = new int[SLOTS * Floor.WIDTH];
        private int next = 0;
        int held = 0;
        private final int[] shelves = new int[SHELVES * Floor.WIDTH];
        private final boolean[] filled = new boolean[SHELVES];

        void note(Floor floor) {
            floor.writeTo(slots, next * Floor.WIDTH);
        }

        void commit() {
            next = (next + 1) % SLOTS;
            held = Math.min(held + 1, MOST_ACTS);
        }

        boolean back(Floor floor) {
            if (held == 0) {
                return false;
            }
            next = (next + SLOTS - 1) % SLOTS;
            held--;
            floor.readFrom(slots, next * Floor.WIDTH);
            return true;
        }

        boolean shelve(int i, Floor floor) {
            if (i < 0 || i >= SHELVES) {
                return false;
            }
            floor.writeTo(shelves, i * Floor.WIDTH);
            filled[i] = true;
            return true;
        }

        boolean takeDown(int i, Floor floor) {
            if (i < 0 || i >= SHELVES || !filled[i]) {
                return false;
            }
            floor.readFrom(shelves, i * Floor.WIDTH);
            held = 0;
            return true;
        }

        /** When PEOPLE have come, nothing from before can be brought back. */
        void loseAll() {
            held = 0;
            for (int i = 0; i < SHELVES; i++) {
                filled[i] = false;
            }
        }
    }

    /** Sets of PEOPLE, by a sum to which each of a set adds his gain. */
    private static final class Sums {
        final int[] gain = new int[MOST_PEOPLE];
        private int among = 0;
        private int base = 0;
        int best = 0;
        int ways = 0;

        void start(int some, int sum) {
            among = some;
            base = sum;
        }

        int total(int set) {
            int sum = base;
            for (int i = 0; i < MOST_PEOPLE; i++) {
                sum += isIn(set, i) ? gain[i] : 0;
            }
            return sum;
        }

        /** Whether a set brings the sum above 0, or just to 0: the least of the fewest, and how many do. */
        boolean search(boolean exactly) {
            ways = 0;
            best = 0;
            for (int set = 0; set <= among; set++) {
                if ((set & ~among) == 0 && does(total(set), exactly)) {
                    if (ways == 0 || Integer.bitCount(set) < Integer.bitCount(best)) {
                        best = set;
                    }
                    ways++;
                }
            }
            return ways > 0;
        }

        private static boolean does(int sum, boolean exactly) {
            return exactly ? sum == 0 : sum > 0;
        }

        /** How many sets bring the sum above 0 with so much more, and not with so much less. */
        int waysWithin(int own) {
            int found = 0;
            for (int set = 0; set <= among; set++) {
                if ((set & ~among) == 0) {
                    int sum = total(set);
                    found += sum + own > 0 && sum - own <= 0 ? 1 : 0;
                }
            }
            return found;
        }
    }

    /** Places that some go to the east, each of which adds LOAD to MOMENT. */
    private static final class Strides {
        private final int[] load = new int[MOST_PEOPLE];
        private final int[] room = new int[MOST_PEOPLE];

        void setOut(Floor floor, int some) {
            for (int i = 0; i < MOST_PEOPLE; i++) {
                load[i] = floor.load(i);
                room[i] = isIn(some, i) ? WALL - floor.placeOf(i) : 0;
            }
        }

        /** The most that so many places can add, if nobody goes who is ahead of one. */
        private int most(int first, int many) {
            int sum = 0;
            int left = many;
            for (int heavy = HEAVIEST; heavy > 0; heavy--) {
                for (int i = Math.max(0, first); i < MOST_PEOPLE; i++) {
                    if (load[i] == heavy) {
                        int far = Math.min(left, room[i]);
                        sum += far * heavy;
                        left -= far;
                    }
                }
            }
            return sum;
        }

        int fewest(int need) {
            for (int many = 0; many <= MOST_PEOPLE * 2 * WALL; many++) {
                if (most(0, many) >= need) {
                    return many;
                }
            }
            return NOTHING;
        }

        /** The most places that one can go of those that are left, so that those behind him do the rest. */
        int farthestOf(int one, int left, int need) {
            if (one < 0 || one >= MOST_PEOPLE) {
                return 0;
            }
            for (int far = Math.min(left, room[one]); far > 0; far--) {
                if (far * load[one] + most(one + 1, left - far) >= need) {
                    return far;
                }
            }
            return 0;
        }
    }

    /** Where it was seen that one stands, so many minutes on. */
    private static final class Sightings {
        private static final int MOST = 10;

        private final int[] who = new int[MOST];
        private final int[] when = new int[MOST];
        private final int[] where = new int[MOST];
        int length = 0;

        boolean add(int one, int n, int place) {
            if (length >= MOST) {
                return false;
            }
            who[length] = one;
            when[length] = n;
            where[length] = place;
            length++;
            return true;
        }

        /** Behind how many minutes nothing more was seen. */
        int latest() {
            int last = 0;
            for (int k = 0; k < length; k++) {
                last = Math.max(last, when[k]);
            }
            return last;
        }

        boolean agree(int n, Floor then) {
            for (int k = 0; k < length; k++) {
                if (when[k] == n && then.placeOf(who[k]) != where[k]) {
                    return false;
                }
            }
            return true;
        }
    }

    /** What was heard of one. */
    private static final class Hearsay {
        static final int KINDS = 5;
        private static final int MOST = 12;

        private final int[] whats = new int[MOST];
        private final int[] values = new int[MOST];
        int length = 0;

        static boolean mayBe(int what, int v) {
            switch (what) {
                case 0:
                    return v >= 1 && v <= HEAVIEST;
                case 2:
                    return v >= 0 && v <= WALL;
                case 1:
                case 3:
                case 4:
                    return v == 0 || v == 1;
                default:
                    return false;
            }
        }

        boolean add(int what, int v) {
            if (length >= MOST) {
                return false;
            }
            whats[length] = what;
            values[length] = v;
            length++;
            return true;
        }

        private static boolean isSo(Floor floor, int one, int what, int v) {
            if (!floor.has(one)) {
                return false;
            }
            switch (what) {
                case 0:
                    return floor.load(one) >= v;
                case 1:
                    return floor.wish[one] > 0 == (v == 1);
                case 2:
                    return Math.abs(floor.place[one]) >= v;
                case 3:
                    return floor.place[one] > 0 == (v == 1);
                default:
                    return floor.isOff(one) == (v == 1);
            }
        }

        /** PEOPLE (bits) that fit all that was heard. */
        int fitting(Floor floor) {
            int some = 0;
            for (int i = 0; i < floor.size; i++) {
                boolean all = true;
                for (int k = 0; k < length && all; k++) {
                    all = isSo(floor, i, whats[k], values[k]);
                }
                some |= all ? 1 << i : 0;
            }
            return some;
        }

        /** How many of some are left at most, when it is told whether it is so. */
        static int leftAtMost(Floor floor, int some, int what, int v) {
            int so = 0;
            for (int i = 0; i < floor.size; i++) {
                so += isIn(some, i) && isSo(floor, i, what, v) ? 1 : 0;
            }
            return Math.max(so, Integer.bitCount(some) - so);
        }
    }

    /** DRAWS, of which each follows from the one ahead of it. */
    private static final class Draws {
        private int drawn = 0;

        void start(int seed) {
            drawn = seed;
        }

        int below(int n) {
            drawn = drawn * 1103515245 + 12345;
            return n > 0 ? (drawn >>> 16) % n : 0;
        }
    }
}
