import java.math.BigInteger;
import java.util.ArrayDeque;
import java.util.ArrayList;
import java.util.Arrays;
import java.util.Collections;
import java.util.Comparator;
import java.util.Deque;
import java.util.HashMap;
import java.util.HashSet;
import java.util.List;
import java.util.Map;
import java.util.NoSuchElementException;
import java.util.Set;
import java.util.function.IntPredicate;
import java.util.regex.Matcher;
import java.util.regex.Pattern;

/** The document once more, in the plainest way: slow, with new objects for everything. */
final class FloorModel {
    /** One of PEOPLE. */
    static final class Person {
        int weight;
        int wish;
        int place;
        int sack;
        boolean off;

        Person copy() {
            Person other = new Person();
            other.weight = weight;
            other.wish = wish;
            other.place = place;
            other.sack = sack;
            other.off = off;
            return other;
        }

        int load() {
            return weight + sack;
        }
    }

    /** All that a MINUTE changes. */
    static final class World {
        List<Person> all = new ArrayList<>();
        int minute = 0;
        int noon = 12;

        World copy() {
            World other = new World();
            for (Person one : all) {
                other.all.add(one.copy());
            }
            other.minute = minute;
            other.noon = noon;
            return other;
        }

        List<Integer> on() {
            List<Integer> them = new ArrayList<>();
            for (int i = 0; i < all.size(); i++) {
                if (!all.get(i).off) {
                    them.add(i);
                }
            }
            return them;
        }

        int moment() {
            int sum = 0;
            for (int i : on()) {
                sum += all.get(i).load() * all.get(i).place;
            }
            return sum;
        }

        int sign() {
            return Integer.signum(moment());
        }

        int way(Node rule, int i) {
            if (all.get(i).off) {
                return 0;
            }
            int way = Integer.signum(rule.of(this, i));
            int to = all.get(i).place + way;
            return to == 10 || to == -10 ? 0 : way;
        }

        int minute(Node rule) {
            List<Integer> ways = new ArrayList<>();
            for (int i = 0; i < all.size(); i++) {
                ways.add(way(rule, i));
            }
            int walked = 0;
            for (int i = 0; i < all.size(); i++) {
                all.get(i).place += ways.get(i);
                walked += Math.abs(ways.get(i));
            }
            minute++;
            return walked;
        }

        World in(int n, Node rule) {
            World then = copy();
            for (int k = 0; k < n; k++) {
                then.minute(rule);
            }
            return then;
        }

        World atNoon(Node rule) {
            return in(Math.max(0, noon - minute), rule);
        }
    }

    /** A part of a rule. */
    interface Node {
        int of(World world, int i);
    }

    /** Told when a text can't go on at a sign. */
    static final class CantStand extends RuntimeException {
        private static final long serialVersionUID = 1;
        final int at;

        CantStand(int at) {
            this.at = at;
        }
    }

    /** Reads a rule by going down from what binds least. */
    static final class RuleReader {
        private final String text;
        private int at = 0;

        RuleReader(String text) {
            this.text = text.length() > 40 ? text.substring(0, 40) : text;
        }

        static Node read(String text) {
            if (text.isEmpty()) {
                return (world, i) -> world.all.get(i).wish - world.all.get(i).place;
            }
            RuleReader reader = new RuleReader(text);
            Node node = reader.comparison(0);
            if (reader.at < reader.text.length() || text.length() > 40) {
                throw new CantStand(reader.at);
            }
            return node;
        }

        private int next() {
            return at < text.length() ? text.charAt(at) : -1;
        }

        private Node comparison(int depth) {
            Node left = sum(depth);
            int sign = next();
            if (sign != '<' && sign != '>' && sign != '=') {
                return left;
            }
            at++;
            Node right = sum(depth);
            if (sign == '<') {
                return (world, i) -> left.of(world, i) < right.of(world, i) ? 1 : 0;
            }
            if (sign == '>') {
                return (world, i) -> left.of(world, i) > right.of(world, i) ? 1 : 0;
            }
            return (world, i) -> left.of(world, i) == right.of(world, i) ? 1 : 0;
        }

        private Node sum(int depth) {
            Node node = product(depth);
            while (next() == '+' || next() == '-') {
                boolean plus = next() == '+';
                at++;
                Node left = node;
                Node right = product(depth);
                node = plus ? (world, i) -> left.of(world, i) + right.of(world, i)
                    : (world, i) -> left.of(world, i) - right.of(world, i);
            }
            return node;
        }

        private Node product(int depth) {
            Node node = negated(depth);
            while (next() == '*' || next() == '/') {
                boolean times = next() == '*';
                at++;
                Node left = node;
                Node right = negated(depth);
                node = times ? (world, i) -> left.of(world, i) * right.of(world, i)
                    : (world, i) -> right.of(world, i) == 0 ? 0 : left.of(world, i) / right.of(world, i);
            }
            return node;
        }

        private Node negated(int depth) {
            if (next() == '-') {
                at++;
                Node inner = negated(depth);
                return (world, i) -> -inner.of(world, i);
            }
            return thing(depth);
        }

        private Node thing(int depth) {
            int sign = next();
            if (sign == '(' && depth < 4) {
                at++;
                Node inner = comparison(depth + 1);
                if (next() != ')') {
                    throw new CantStand(at);
                }
                at++;
                return inner;
            }
            if (sign >= '0' && sign <= '9') {
                int from = at;
                while (at < from + 3 && next() >= '0' && next() <= '9') {
                    at++;
                }
                int number = Integer.parseInt(text.substring(from, at));
                return (world, i) -> number;
            }
            Node node = ofOne(sign);
            if (node == null) {
                throw new CantStand(at);
            }
            at++;
            return node;
        }

        private static Node ofOne(int sign) {
            switch (sign) {
                case 'c':
                    return (world, i) -> world.all.get(i).wish;
                case 'p':
                    return (world, i) -> world.all.get(i).place;
                case 'w':
                    return (world, i) -> world.all.get(i).load();
                case 'm':
                    return (world, i) -> world.moment();
                case 'q':
                    return (world, i) -> (int) world.on().stream()
                        .filter(j -> j != i && world.all.get(j).place == world.all.get(i).place).count();
                case 'i':
                    return (world, i) -> i;
                case 'n':
                    return (world, i) -> world.minute % 7;
                default:
                    return null;
            }
        }
    }

    World now = new World();
    Node rule = RuleReader.read("");
    StringBuilder text = new StringBuilder();
    List<Long> row = new ArrayList<>();
    Deque<World> done = new ArrayDeque<>();
    Map<Integer, World> shelf = new HashMap<>();
    List<int[]> sightings = new ArrayList<>();
    List<int[]> hearsay = new ArrayList<>();

    private void told(long... numbers) {
        row = new ArrayList<>();
        for (long number : numbers) {
            row.add(number);
        }
    }

    private String taken() {
        String all = text.toString();
        text.setLength(0);
        return all;
    }

    private boolean has(int one) {
        return one >= 0 && one < now.all.size();
    }

    private static boolean within(int v, int least, int most) {
        return v >= least && v <= most;
    }

    // ---- people

    int sign(int v) {
        if (text.length() > 76) {
            return -1;
        }
        for (int k = 3; k >= 0; k--) {
            text.append((char) ((v >> 8 * k) & 0xFF));
        }
        return text.length();
    }

    boolean end(int n) {
        if (!within(n, 0, text.length())) {
            return false;
        }
        text.setLength(n);
        return true;
    }

    /** The first sign behind which no text of a kind goes on or ends; the end, if it ends too early; else -1. */
    private static int cantStand(String all, Pattern kind, int most) {
        for (int p = 0; p < all.length(); p++) {
            Matcher matcher = kind.matcher(all.substring(0, p + 1));
            boolean viable = matcher.matches() || matcher.hitEnd();
            if (p == most || !viable) {
                return p;
            }
        }
        return kind.matcher(all).matches() ? -1 : all.length();
    }

    int people() {
        String all = taken();
        if (all.isEmpty()) {
            return 0;
        }
        int room = 7 - now.all.size();
        if (room == 0) {
            return -1;
        }
        String one = "[1-9][+-][0-9]";
        int bad = cantStand(all, Pattern.compile(one + "(?:;" + one + "){0," + (room - 1) + "}"), 27);
        if (bad < 0) {
            int lines = all.split(";").length;
            for (String line : all.split(";")) {
                Person person = new Person();
                person.weight = Integer.parseInt(line.substring(0, 1));
                person.wish = Integer.parseInt(line.substring(1));
                now.all.add(person);
            }
            done.clear();
            shelf.clear();
            return lines;
        }
        // a ; may stand where no more have room: it is the LINE behind it that can't
        boolean behindLast = bad == 4 * room - 1 && bad < 27 && all.charAt(bad) == ';';
        return -1 - (behindLast ? bad + 1 : bad);
    }

    int rule() {
        try {
            rule = RuleReader.read(taken());
            return 0;
        } catch (CantStand e) {
            return -1 - e.at;
        }
    }

    int one(int one, int what) {
        if (!has(one) || !within(what, 0, 5)) {
            throw new NoSuchElementException();
        }
        Person him = now.all.get(one);
        int[] told = {him.weight, him.wish, him.place, him.sack, him.off ? 1 : 0, now.way(rule, one)};
        return told[what];
    }

    int sheet(int kind, int n, int f, int step) {
        if (!within(kind, 0, 3) || n > 7) {
            return -1;
        }
        if (kind < 3 && n < 0) {
            return -2;
        }
        int sum = 0;
        int entry = f;
        for (int k = 0; k < now.all.size(); k++) {
            int told = kind == 0 ? (byte) entry : kind == 1 ? (short) entry : entry;
            int weight = kind == 3 || k >= n || told < 1 ? 1 : told > 9 ? 9 : told;
            now.all.get(k).weight = weight;
            sum += weight;
            entry += step;
        }
        return kind == 3 ? -3 : sum;
    }

    // ---- minutes, what is done

    private void remember(World before) {
        done.addLast(before);
        if (done.size() > 15) {
            done.removeFirst();
        }
    }

    private int remembered(World before, int answer) {
        if (answer != -1 && answer != -2) {
            remember(before);
        }
        return answer;
    }

    int minutes(int n) {
        World before = now.copy();
        return remembered(before, doMinutes(n));
    }

    private int doMinutes(int n) {
        if (!within(n, 0, 60)) {
            return -1;
        }
        int walked = 0;
        for (int k = 0; k < n; k++) {
            walked += now.minute(rule);
        }
        long east = now.on().stream().filter(i -> now.all.get(i).place == 9).count();
        long west = now.on().stream().filter(i -> now.all.get(i).place == -9).count();
        told(walked, east, west);
        return 2000 + now.moment();
    }

    int leads(int one, int place) {
        World before = now.copy();
        return remembered(before, doLeads(one, place));
    }

    private int doLeads(int one, int place) {
        if (!has(one) || !within(place, -9, 9)) {
            return -1;
        }
        int was = now.all.get(one).place;
        now.all.get(one).place = place;
        return was == place ? -2 : Math.abs(was - place);
    }

    int sacks(int one, int v) {
        World before = now.copy();
        return remembered(before, doSacks(one, v));
    }

    private int doSacks(int one, int v) {
        if (!has(one) || !within(v, 0, 9)) {
            return -1;
        }
        int was = now.all.get(one).sack;
        now.all.get(one).sack = v;
        return was == v ? -2 : was;
    }

    int steps(int one) {
        World before = now.copy();
        return remembered(before, doSteps(one));
    }

    private int doSteps(int one) {
        if (!has(one)) {
            return -1;
        }
        now.all.get(one).off = !now.all.get(one).off;
        return now.on().size();
    }

    int turnsTo(int one, int v) {
        World before = now.copy();
        return remembered(before, doTurns(one, v));
    }

    private int doTurns(int one, int v) {
        if (!has(one) || !within(v, -9, 9)) {
            return -1;
        }
        int was = now.all.get(one).wish;
        now.all.get(one).wish = v;
        return was == v ? -2 : 100 + was;
    }

    int noon(int v) {
        if (!within(v, 1, 60)) {
            return -1;
        }
        if (v == now.noon) {
            return -2;
        }
        remember(now.copy());
        int was = now.noon;
        now.noon = v;
        return was;
    }

    private static final String ACT = "n[0-9]|l[0-9][ew][0-9]|s[0-9][0-9]|o[0-9]|t[0-9][+-][0-9]";

    int morning() {
        String all = taken();
        int bad = cantStand(all, Pattern.compile("(?:" + ACT + ")*"), 60);
        if (bad >= 0) {
            return -1 - bad;
        }
        World before = now.copy();
        int acts = 0;
        boolean refused = false;
        Matcher matcher = Pattern.compile(ACT).matcher(all);
        while (!refused && matcher.find()) {
            int answer = act(matcher.group());
            refused = answer == -1 || answer == -2;
            acts += refused ? 0 : 1;
        }
        if (acts > 0) {
            remember(before);
        }
        told(refused ? 1 : 0, 2000 + now.moment());
        return acts;
    }

    private int act(String act) {
        int first = act.charAt(1) - '0';
        int last = act.charAt(act.length() - 1) - '0';
        switch (act.charAt(0)) {
            case 'n':
                return doMinutes(first);
            case 'l':
                return doLeads(first, act.charAt(2) == 'e' ? last : -last);
            case 's':
                return doSacks(first, last);
            case 'o':
                return doSteps(first);
            default:
                return doTurns(first, act.charAt(2) == '+' ? last : -last);
        }
    }

    private void bringBack(World was) {
        World back = was.copy();
        for (int i = 0; i < back.all.size(); i++) {
            back.all.get(i).weight = now.all.get(i).weight;
        }
        now = back;
    }

    int undo() {
        if (done.isEmpty()) {
            return -1;
        }
        bringBack(done.removeLast());
        return done.size();
    }

    // ---- how it tips

    int tips() {
        int east = 0;
        int west = 0;
        int pin = 0;
        for (int i : now.on()) {
            Person him = now.all.get(i);
            east += him.place > 0 ? him.place * him.load() : 0;
            west -= him.place < 0 ? him.place * him.load() : 0;
            pin += him.place == 0 ? him.load() : 0;
        }
        told(east, west, pin);
        return Integer.signum(east - west);
    }

    int later(int one, int n) {
        if (!has(one) || !within(n, 0, 60)) {
            return -1;
        }
        World then = now.in(n, rule);
        told(2000 + then.moment());
        return 100 + then.all.get(one).place;
    }

    private void addPlaces(World then) {
        for (Person one : then.all) {
            row.add(100L + one.place);
        }
    }

    int decides() {
        World then = now.atNoon(rule);
        told(2000 + then.moment());
        addPlaces(then);
        return then.sign();
    }

    int spares() {
        List<Integer> them = now.on();
        if (them.isEmpty()) {
            return -2;
        }
        Map<Integer, Integer> moments = new HashMap<>();
        for (int i : them) {
            World without = now.copy();
            without.all.get(i).off = true;
            moments.put(i, without.atNoon(rule).moment());
        }
        int most = Collections.max(moments.values());
        for (int i : them) {
            if (moments.get(i) == most) {
                told(2000 + most, 2000 + now.atNoon(rule).moment());
                return i;
            }
        }
        throw new IllegalStateException();
    }

    int swings() {
        for (int n = 1; n <= 60; n++) {
            World then = now.in(n, rule);
            if (then.sign() != now.sign()) {
                told(then.sign() + 1);
                return n;
            }
        }
        return -2;
    }

    int level() {
        List<Integer> found = new ArrayList<>();
        for (int n = 0; n <= 60; n++) {
            if (now.in(n, rule).sign() == 0) {
                found.add(n);
            }
        }
        told();
        if (!found.isEmpty()) {
            row.add((long) found.get(0));
        }
        return found.size();
    }

    int rest() {
        for (int n = 0; n <= 60; n++) {
            World then = now.in(n, rule);
            boolean still = true;
            for (int i = 0; i < then.all.size(); i++) {
                still &= then.way(rule, i) == 0;
            }
            if (still) {
                told(2000 + then.moment());
                return n;
            }
        }
        return -2;
    }

    // ---- so that it is carried

    private int onBits() {
        int bits = 0;
        for (int i : now.on()) {
            bits |= 1 << i;
        }
        return bits;
    }

    int walks(int some) {
        if ((some & ~onBits()) != 0) {
            return -1;
        }
        for (int many = 0; many <= 126; many++) {
            int[] far = new int[now.all.size()];
            if (goes(some, 0, many, 1 - now.moment(), far, new HashSet<>())) {
                told();
                for (int one : far) {
                    row.add((long) one);
                }
                return many;
            }
        }
        return -2;
    }

    private boolean goes(int some, int i, int left, int need, int[] far, Set<List<Integer>> failed) {
        if (i == now.all.size()) {
            return need <= 0 && left == 0;
        }
        if (failed.contains(List.of(i, left, need))) {
            return false;
        }
        int most = (some >> i & 1) == 0 ? 0 : 9 - now.all.get(i).place;
        for (int x = Math.min(most, left); x >= 0; x--) {
            far[i] = x;
            if (goes(some, i + 1, left - x, need - x * now.all.get(i).load(), far, failed)) {
                return true;
            }
        }
        failed.add(List.of(i, left, need));
        return false;
    }

    /** The sets of PEOPLE who are not OFF of which something is true, the fewest first, then the least. */
    private List<Integer> sets(IntPredicate is) {
        List<Integer> them = new ArrayList<>();
        for (int set = 0; set < 1 << now.all.size(); set++) {
            if ((set & ~onBits()) == 0 && is.test(set)) {
                them.add(set);
            }
        }
        them.sort(Comparator.<Integer>comparingInt(Integer::bitCount).thenComparing(set -> set));
        return them;
    }

    private int fewest(List<Integer> sets) {
        if (sets.isEmpty()) {
            return -2;
        }
        told(sets.get(0));
        return Integer.bitCount(sets.get(0));
    }

    int wall() {
        return fewest(sets(set -> {
            World then = now.copy();
            for (int i = 0; i < then.all.size(); i++) {
                then.all.get(i).place = (set >> i & 1) == 1 ? 9 : then.all.get(i).place;
            }
            return then.sign() > 0;
        }));
    }

    int bears(int one) {
        if (!has(one)) {
            return -1;
        }
        for (int v = 0; v < 10; v++) {
            World then = now.copy();
            then.all.get(one).sack = v;
            if (then.sign() > 0) {
                told(2000 + then.moment());
                return v;
            }
        }
        return -2;
    }

    int canvass() {
        return fewest(sets(set -> {
            int sum = 0;
            for (int i : now.on()) {
                sum += now.all.get(i).load() * now.all.get(i).wish * ((set >> i & 1) == 1 ? -1 : 1);
            }
            return sum > 0;
        }));
    }

    int clears() {
        return fewest(sets(set -> {
            World then = now.copy();
            for (int i = 0; i < then.all.size(); i++) {
                then.all.get(i).off |= (set >> i & 1) == 1;
            }
            return then.sign() == 0;
        }));
    }

    int heads() {
        int heads = 0;
        int loads = 0;
        int wishes = 0;
        int both = 0;
        for (int i : now.on()) {
            Person him = now.all.get(i);
            heads += Integer.signum(him.wish);
            loads += Integer.signum(him.wish) * him.load();
            wishes += him.wish;
            both += him.wish * him.load();
        }
        told(1000 + loads, 1000 + wishes, 10000 + both);
        return 100 + heads;
    }

    // ---- what somebody decides

    private void tellFraction(BigInteger up, BigInteger down) {
        BigInteger common = up.gcd(down);
        told(up.divide(common).longValueExact(), down.divide(common).longValueExact());
    }

    /** The sums of all ways in which some stand in the east or in the west. */
    private List<Integer> ways(List<Integer> some) {
        List<Integer> sums = List.of(0);
        for (int i : some) {
            int far = now.all.get(i).load() * Math.abs(now.all.get(i).wish);
            List<Integer> more = new ArrayList<>();
            for (int sum : sums) {
                more.add(sum + far);
                more.add(sum - far);
            }
            sums = more;
        }
        return sums;
    }

    private long decidedBy(int one) {
        List<Integer> others = now.on();
        others.remove((Integer) one);
        int own = now.all.get(one).load() * Math.abs(now.all.get(one).wish);
        return ways(others).stream().filter(sum -> sum + own > 0 && !(sum - own > 0)).count();
    }

    int power(int one) {
        if (!has(one)) {
            return -1;
        }
        if (now.all.get(one).off) {
            return -2;
        }
        tellFraction(BigInteger.valueOf(decidedBy(one)), BigInteger.TWO.pow(now.on().size() - 1));
        return 0;
    }

    int strongest() {
        List<Integer> them = now.on();
        if (them.isEmpty()) {
            return -2;
        }
        long sum = them.stream().mapToLong(this::decidedBy).sum();
        int best = Collections.max(them, Comparator.comparingLong(this::decidedBy)
            .thenComparing(Comparator.<Integer>reverseOrder()));
        told(decidedBy(best), sum);
        return best;
    }

    int just(int v) {
        if (!within(v, 0, 99)) {
            return -1;
        }
        List<Integer> sets = sets(set -> {
            int sum = 0;
            for (int i = 0; i < now.all.size(); i++) {
                sum += (set >> i & 1) * now.all.get(i).load();
            }
            return sum == v;
        });
        int answer = fewest(sets);
        if (answer != -2) {
            row.add((long) sets.size());
        }
        return answer;
    }

    // ---- who stands where

    int farthest() {
        List<Integer> them = now.on();
        if (them.isEmpty()) {
            return -2;
        }
        int far = them.stream().mapToInt(i -> Math.abs(now.all.get(i).place)).max().getAsInt();
        List<Integer> alike = new ArrayList<>(them);
        alike.removeIf(i -> Math.abs(now.all.get(i).place) != far);
        told(far, alike.size());
        return alike.get(0);
    }

    int line() {
        List<Integer> them = now.on();
        them.sort(Comparator.comparingInt(i -> now.all.get(i).place));
        told(them.stream().mapToLong(i -> i).toArray());
        return them.size();
    }

    int backs() {
        List<int[]> pairs = new ArrayList<>();
        for (int i : now.on()) {
            for (int j : now.on()) {
                Person one = now.all.get(i);
                Person other = now.all.get(j);
                boolean apart = one.place * other.place < 0 && Math.abs(one.place) == Math.abs(other.place);
                if (i < j && apart && one.load() == other.load()) {
                    pairs.add(new int[] {i, j});
                }
            }
        }
        told();
        if (!pairs.isEmpty()) {
            told(pairs.get(0)[0], pairs.get(0)[1]);
        }
        return pairs.size();
    }

    int crowd() {
        Map<Integer, Integer> byPlace = new HashMap<>();
        for (int i : now.on()) {
            byPlace.merge(now.all.get(i).place, 1 << i, Integer::sum);
        }
        int most = byPlace.values().stream().mapToInt(Integer::bitCount).max().orElse(0);
        told();
        byPlace.entrySet().stream().filter(entry -> Integer.bitCount(entry.getValue()) == most)
            .min(Map.Entry.comparingByKey()).ifPresent(entry -> told(100 + entry.getKey(), entry.getValue()));
        return most;
    }

    // ---- how much one cares

    int seen(int one, int n, int place) {
        if (!has(one) || !within(n, 0, 20) || !within(place, -9, 9) || sightings.size() == 10) {
            return -1;
        }
        sightings.add(new int[] {one, n, place});
        return sightings.size();
    }

    int forget() {
        int were = sightings.size();
        sightings.clear();
        return were;
    }

    private World wishing(int one, int wish) {
        World world = now.copy();
        world.all.get(one).wish = wish;
        return world;
    }

    private List<Integer> possible(int one) {
        List<Integer> wishes = new ArrayList<>();
        for (int wish = -9; wish <= 9; wish++) {
            World world = wishing(one, wish);
            boolean so = true;
            for (int[] sighting : sightings) {
                so = so && world.in(sighting[1], rule).all.get(sighting[0]).place == sighting[2];
            }
            if (so) {
                wishes.add(wish);
            }
        }
        return wishes;
    }

    int cares(int one) {
        if (!has(one)) {
            return -1;
        }
        List<Integer> wishes = possible(one);
        told(wishes.size());
        if (!wishes.isEmpty()) {
            told(wishes.size(), 100 + Collections.min(wishes), 100 + Collections.max(wishes));
        }
        return wishes.stream().mapToInt(wish -> 1 << 9 + wish).sum();
    }

    int looks(int one) {
        if (!has(one)) {
            return -1;
        }
        List<Integer> wishes = possible(one);
        if (wishes.isEmpty()) {
            return -2;
        }
        int best = -1;
        int fewest = 100;
        for (int n = 0; n <= 20; n++) {
            Map<Integer, Integer> left = new HashMap<>();
            for (int wish : wishes) {
                left.merge(wishing(one, wish).in(n, rule).all.get(one).place, 1, Integer::sum);
            }
            if (Collections.max(left.values()) < fewest) {
                fewest = Collections.max(left.values());
                best = n;
            }
        }
        told(fewest);
        return best;
    }

    // ---- which one it was

    private static boolean mayBeHeard(int what, int v) {
        int[][] limits = {{1, 18}, {0, 1}, {0, 9}, {0, 1}, {0, 1}};
        return within(what, 0, 4) && within(v, limits[what][0], limits[what][1]);
    }

    int heard(int what, int v) {
        if (!mayBeHeard(what, v) || hearsay.size() == 12) {
            return -1;
        }
        hearsay.add(new int[] {what, v});
        return hearsay.size();
    }

    int denies() {
        int were = hearsay.size();
        hearsay.clear();
        return were;
    }

    private boolean isSo(int i, int what, int v) {
        Person him = now.all.get(i);
        boolean[] told = {
            him.load() >= v, (him.wish > 0 ? 1 : 0) == v, Math.abs(him.place) >= v, (him.place > 0 ? 1 : 0) == v,
            (him.off ? 1 : 0) == v,
        };
        return told[what];
    }

    private List<Integer> fitting() {
        List<Integer> them = new ArrayList<>();
        for (int i = 0; i < now.all.size(); i++) {
            int who = i;
            if (hearsay.stream().allMatch(one -> isSo(who, one[0], one[1]))) {
                them.add(i);
            }
        }
        return them;
    }

    int fits() {
        told(fitting().size());
        return fitting().stream().mapToInt(i -> 1 << i).sum();
    }

    int asks() {
        List<Integer> them = fitting();
        if (them.isEmpty()) {
            return -2;
        }
        int best = -1;
        long fewest = 100;
        for (int asked = 0; asked < 100; asked++) {
            int what = asked / 20;
            int v = asked % 20;
            if (mayBeHeard(what, v)) {
                long so = them.stream().filter(i -> isSo(i, what, v)).count();
                long left = Math.max(so, them.size() - so);
                if (left < fewest) {
                    fewest = left;
                    best = asked;
                }
            }
        }
        told(fewest);
        return best;
    }

    // ---- faints, a plank

    int faints(int p) {
        if (!within(p, 0, 10)) {
            return -1;
        }
        Map<Integer, BigInteger> chances = new HashMap<>(Map.of(0, BigInteger.ONE));
        for (int i : now.on()) {
            Map<Integer, BigInteger> more = new HashMap<>();
            int own = now.all.get(i).load() * now.all.get(i).place;
            chances.forEach((sum, chance) -> {
                more.merge(sum, chance.multiply(BigInteger.valueOf(p)), BigInteger::add);
                more.merge(sum + own, chance.multiply(BigInteger.valueOf(10 - p)), BigInteger::add);
            });
            chances = more;
        }
        BigInteger carried = BigInteger.ZERO;
        for (Map.Entry<Integer, BigInteger> entry : chances.entrySet()) {
            carried = entry.getKey() > 0 ? carried.add(entry.getValue()) : carried;
        }
        tellFraction(carried, BigInteger.TEN.pow(now.on().size()));
        return 0;
    }

    int plank(int n, int k) {
        if (!within(n, 0, 60) || !within(k, 2, 9)) {
            return -1;
        }
        return winning(n, k, 0, new HashMap<>());
    }

    private int winning(int left, int k, int last, Map<Integer, Integer> known) {
        Integer told = known.get(left * 10 + last);
        if (told != null) {
            return told;
        }
        int found = 0;
        for (int stride = k; stride >= 1; stride--) {
            if (stride <= left && stride != last && winning(left - stride, k, stride, known) == 0) {
                found = stride;
            }
        }
        known.put(left * 10 + last, found);
        return found;
    }

    // ---- laws, crossings, years

    int law() {
        Node other;
        try {
            other = RuleReader.read(taken());
        } catch (CantStand e) {
            return -10000 - e.at;
        }
        World byIt = now.atNoon(other);
        World asIs = now.atNoon(rule);
        told(byIt.sign() + 1, asIs.sign() + 1);
        addPlaces(byIt);
        return 5000 + byIt.moment() - asIs.moment();
    }

    int crossings(int v) {
        if (!within(v, 0, 20)) {
            return -1;
        }
        int[][] gain = new int[10][10];
        for (int x = 0; x < 10; x++) {
            for (int y = 0; y < 10; y++) {
                gain[x][y] = x > y ? v - (x + y) / 3 : x == y ? -(x / 2) : 0;
            }
        }
        int[] most = new int[10];
        Arrays.fill(most, Integer.MIN_VALUE);
        for (int x = 0; x < 10; x++) {
            for (int y = 0; y < 10; y++) {
                most[y] = Math.max(most[y], gain[x][y]);
            }
        }
        int found = 0;
        told();
        for (int x = 9; x >= 0; x--) {
            for (int y = 9; y >= 0; y--) {
                if (gain[x][y] == most[y] && gain[y][x] == most[x]) {
                    found++;
                    told(x, y);
                }
            }
        }
        return found;
    }

    private int drawn;

    private int draw(int n) {
        drawn = drawn * 1103515245 + 12345;
        return (int) ((drawn & 0xFFFFFFFFL) / 65536 % n);
    }

    int years(int seed, int n) {
        if (!within(n, 1, 60)) {
            return -1;
        }
        World world = now.copy();
        drawn = seed;
        int carried = 0;
        for (int k = 0; k < n; k++) {
            int what = draw(4);
            if (what < 2) {
                world.minute(rule);
            } else if (!world.all.isEmpty()) {
                Person him = world.all.get(draw(world.all.size()));
                if (what == 2) {
                    him.sack = draw(10);
                } else {
                    him.off = !him.off;
                }
            }
            carried += world.sign() > 0 ? 1 : 0;
        }
        told(carried, world.on().stream().mapToInt(i -> 1 << i).sum());
        return 2000 + world.moment();
    }

    // ---- kept

    boolean keep(int i) {
        if (!within(i, 0, 2)) {
            return false;
        }
        shelf.put(i, now.copy());
        return true;
    }

    boolean again(int i) {
        if (!shelf.containsKey(i)) {
            return false;
        }
        bringBack(shelf.get(i));
        done.clear();
        return true;
    }

    int count(int what) {
        if (!within(what, 0, 10)) {
            return -100;
        }
        int load = now.on().stream().mapToInt(i -> now.all.get(i).load()).sum();
        int[] counts = {
            now.all.size(), onBits(), now.minute, now.noon, 2000 + now.moment(), load, sightings.size(),
            hearsay.size(), done.size(), row.size(), text.length(),
        };
        return counts[what];
    }

    long row(int i) {
        if (!within(i, 0, row.size() - 1)) {
            throw new NoSuchElementException();
        }
        return row.get(i);
    }
}
