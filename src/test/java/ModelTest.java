import java.math.BigInteger;
import java.util.ArrayDeque;
import java.util.ArrayList;
import java.util.Arrays;
import java.util.Deque;
import java.util.List;
import java.util.Random;
import java.util.regex.Matcher;
import java.util.regex.Pattern;

/** Random runs of calls, each answer held against a plain model of the document (no shortcut in it). */
public final class ModelTest {
    static final int BAD = -1, NO = -2, FULL = -3, NONE = -4;
    static int wrong = 0;
    static int calls = 0;

    record Stretch(int yards, int slope) {}
    record Bearer(int strength, int kind) {}
    record Turn(int who, int from, int to) {}

    /** One text as it is told. */
    static final class Told {
        final List<Stretch> stretches = new ArrayList<>();
        final List<Bearer> bearers = new ArrayList<>();
        final List<Turn> turns = new ArrayList<>();
        final int[] price = {1, 1, 1, 1, 1, 1};
        int m = 1;
        int r = 0;
        int fault = NONE;

        Told(String text) {
            Pattern item = Pattern.compile("([sbmrtx])(\\d{1,2}(?:,\\d{1,2})*);");
            Matcher at = item.matcher(text);
            int place = 0;
            while (place < text.length()) {
                if (!at.region(place, text.length()).lookingAt() || !tell(at.group(1), at.group(2).split(","))) {
                    fault = place;
                    return;
                }
                place = at.end();
            }
        }

        private boolean tell(String letter, String[] numbers) {
            int[] n = Arrays.stream(numbers).mapToInt(Integer::parseInt).toArray();
            switch (letter) {
                case "s":
                    if (n.length != 2 || n[0] < 1 || n[0] > 30 || n[1] > 5) return false;
                    stretches.add(new Stretch(n[0], n[1]));
                    return stretches.size() <= 6 && yards() <= 120;
                case "b":
                    if (n.length != 2 || n[0] < 1 || n[0] > 60 || n[1] > 3) return false;
                    bearers.add(new Bearer(10 * n[0], n[1]));
                    return bearers.size() <= 6;
                case "m":
                    m = n[0];
                    return n.length == 1 && m >= 1 && m <= 3;
                case "r":
                    r = n[0];
                    return n.length == 1 && r <= 3;
                case "t":
                    if (n.length != 3 || n[0] >= bearers.size() || n[1] > n[2]) return false;
                    turns.add(new Turn(n[0], n[1], n[2]));
                    return turns.size() <= 9;
                default:
                    if (n.length != 2 || n[0] >= stretches.size() || n[1] < 1 || n[1] > 9) return false;
                    price[n[0]] = n[1];
                    return true;
            }
        }

        int yards() {
            return stretches.stream().mapToInt(Stretch::yards).sum();
        }
    }

    /** What comes of it: one way up the hill. */
    static final class Way {
        final int[] left, acres, stumble, bore;
        final int[] by;
        int stands = NONE;

        Way(Model w, List<Stretch> hill, List<Turn> turns, int[] strength, int z) {
            int n = strength.length;
            left = strength.clone();
            acres = new int[n];
            bore = new int[n];
            stumble = new int[n];
            Arrays.fill(stumble, NONE);
            List<Integer> of = new ArrayList<>();
            for (int s = 0; s < hill.size(); s++) {
                for (int k = 0; k < hill.get(s).yards(); k++) of.add(s);
            }
            by = new int[of.size()];
            for (int y = 0; y < of.size() && stands == NONE; y++) {
                List<Integer> toBear = new ArrayList<>();
                for (int i = 0; i < n; i++) {
                    final int who = i, yard = y;
                    boolean his = turns.stream().anyMatch(t -> t.who() == who && t.from() <= yard && yard <= t.to());
                    if (his && stumble[i] == NONE) toBear.add(i);
                }
                int base = 1 + hill.get(of.get(y)).slope() + w.told.r;
                if (z >= 0) {
                    BigInteger q = BigInteger.valueOf(7919).multiply(BigInteger.valueOf(z))
                        .add(BigInteger.valueOf(6151L * y + 1));
                    base += q.multiply(q).mod(BigInteger.valueOf(65521)).intValue() % 3;
                }
                List<Integer> bear = new ArrayList<>();
                int[] cost = new int[n];
                for (int i : toBear) {
                    cost[i] = cost(w, i, base, toBear);
                    if (left[i] < cost[i]) stumble[i] = y;
                    else bear.add(i);
                }
                if (bear.size() < w.told.m) {
                    stands = y;
                } else {
                    for (int i : bear) {
                        left[i] -= cost[i];
                        bore[i]++;
                        by[y] |= 1 << i;
                        acres[i] += 60 * w.told.price[of.get(y)] / bear.size();
                    }
                }
            }
            for (int i = 0; i < n; i++) {
                if (stumble[i] != NONE || w.told.bearers.get(i).kind() == 2) acres[i] = 0;
            }
        }

        static int cost(Model w, int i, int base, List<Integer> toBear) {
            int kind = w.told.bearers.get(i).kind();
            int c = kind == 1 ? 2 * base : base;
            boolean twin = toBear.stream().anyMatch(k -> k != i && w.told.bearers.get(k).kind() == 3);
            if (kind == 3 && twin) c--;
            return Math.max(1, c / toBear.size());
        }
    }

    /** The document, call by call. */
    static final class Model {
        static final String FIRST = "s10,0;s8,3;s12,1;b6,0;b3,1;b9,2;b4,3;b4,3;m1;"
            + "t0,0,9;t1,4,12;t2,10,20;t3,18,29;t4,18,29;x1,2;";
        String text = "";
        Told told = new Told(FIRST);
        List<Turn> turns = new ArrayList<>(told.turns);
        Deque<List<Turn>> undone = new ArrayDeque<>();
        Deque<List<Turn>> kept = new ArrayDeque<>();
        List<int[]> prints = new ArrayList<>();

        int[] strengths() {
            return told.bearers.stream().mapToInt(Bearer::strength).toArray();
        }

        int n() {
            return told.bearers.size();
        }

        boolean isBearer(int i) {
            return i >= 0 && i < n();
        }

        Way now() {
            return new Way(this, told.stretches, turns, strengths(), -1);
        }

        Way without(int i) {
            int[] s = strengths();
            s[i] = 0;
            return new Way(this, told.stretches, turns, s, -1);
        }

        int write(int c) {
            if (c < 32 || c > 126) return BAD;
            if (text.length() == 200) return FULL;
            text += (char) c;
            return text.length();
        }

        int wipe() {
            int was = text.length();
            text = "";
            return was;
        }

        int fault() {
            return new Told(text).fault;
        }

        int lay() {
            Told t = new Told(text);
            if (t.fault != NONE || t.stretches.isEmpty() || t.bearers.isEmpty()) return NO;
            told = t;
            turns = new ArrayList<>(t.turns);
            undone.clear();
            kept.clear();
            prints.clear();
            return t.yards();
        }

        int yard(int y, int what) {
            if (y < 0 || y >= told.yards() || what < 0 || what > 4) return BAD;
            int s = 0;
            for (int top = told.stretches.get(0).yards(); y >= top; top += told.stretches.get(s).yards()) s++;
            if (what == 0) return s;
            if (what == 1) return told.stretches.get(s).slope();
            if (what == 2) return told.price[s];
            if (what == 3) return turns.stream().filter(t -> t.from() <= y && y <= t.to())
                .mapToInt(t -> 1 << t.who()).reduce(0, (a, b) -> a | b);
            return now().by[y];
        }

        int bearer(int i, int what) {
            if (!isBearer(i) || what < 0 || what > 5) return BAD;
            Way w = now();
            return new int[] {told.bearers.get(i).strength(), told.bearers.get(i).kind(), w.left[i], w.acres[i],
                w.stumble[i], w.bore[i]}[what];
        }

        int stands() {
            return now().stands;
        }

        static int fraction(long above, long below, int part) {
            if (below == 0 || above == 0) return part;
            long g = BigInteger.valueOf(above).gcd(BigInteger.valueOf(below)).longValue();
            return (int) ((part == 0 ? above : below) / g);
        }

        int share(int i, int part) {
            if (!isBearer(i) || part < 0 || part > 1) return BAD;
            Way w = now();
            return fraction(w.acres[i], Arrays.stream(w.acres).sum(), part);
        }

        int turn(int k, int what) {
            if (k < 0 || k >= turns.size() || what < 0 || what > 2) return BAD;
            Turn t = turns.get(k);
            return what == 0 ? t.who() : what == 1 ? t.from() : t.to();
        }

        void remember() {
            undone.push(new ArrayList<>(turns));
            if (undone.size() > 8) undone.removeLast();
        }

        int bear(int i, int a, int b) {
            if (!isBearer(i) || a < 0 || a > 119 || b < 0 || b > 119 || a > b) return BAD;
            if (turns.size() == 9) return FULL;
            remember();
            turns.add(new Turn(i, a, b));
            return turns.size();
        }

        int leave(int k) {
            if (k < 0 || k >= turns.size()) return BAD;
            remember();
            turns.remove(k);
            return turns.size();
        }

        int undo() {
            if (undone.isEmpty()) return NO;
            turns = undone.pop();
            return undone.size();
        }

        int best(int i, int what) {
            if (!isBearer(i) || what < 0 || what > 1) return BAD;
            int most = now().acres[i];
            int which = NONE;
            for (int a = 0; a < told.yards(); a++) {
                for (int b = a; b < told.yards(); b++) {
                    List<Turn> more = new ArrayList<>(turns);
                    more.add(new Turn(i, a, b));
                    int acres = new Way(this, told.stretches, more, strengths(), -1).acres[i];
                    if (acres > most) {
                        most = acres;
                        which = 200 * a + b;
                    }
                }
            }
            return which == NONE ? NONE : what == 0 ? which : most;
        }

        int safe() {
            for (int i = 0; i < n(); i++) {
                if (without(i).stands != NONE) return i;
            }
            return NONE;
        }

        int needed() {
            for (int size = 0; size <= n(); size++) {
                for (int set = 0; set < 1 << n(); set++) {
                    if (Integer.bitCount(set) == size) {
                        List<Turn> all = new ArrayList<>();
                        for (int i = 0; i < n(); i++) {
                            if ((set & 1 << i) != 0) all.add(new Turn(i, 0, 119));
                        }
                        if (new Way(this, told.stretches, all, strengths(), -1).stands == NONE) return set;
                    }
                }
            }
            return NONE;
        }

        int[] farthest(int[] strength) {
            List<List<Integer>> orders = new ArrayList<>();
            permute(new ArrayList<>(), orders);
            int[] found = new int[n() + 1];
            found[0] = -1;
            List<Integer> slopes = new ArrayList<>();
            for (Stretch s : told.stretches) {
                for (int k = 0; k < s.yards(); k++) slopes.add(s.slope());
            }
            for (List<Integer> order : orders) {
                int y = 0;
                for (int i : order) {
                    int left = strength[i];
                    while (y < slopes.size()) {
                        int cost = Way.cost(this, i, 1 + slopes.get(y) + told.r, List.of(i));
                        if (left < cost) break;
                        left -= cost;
                        y++;
                    }
                }
                if (y > found[0]) {
                    found[0] = y;
                    for (int k = 0; k < n(); k++) found[k + 1] = order.get(k);
                }
            }
            return found;
        }

        void permute(List<Integer> soFar, List<List<Integer>> into) {
            if (soFar.size() == n()) into.add(new ArrayList<>(soFar));
            for (int i = 0; i < n(); i++) {
                if (!soFar.contains(i)) {
                    soFar.add(i);
                    permute(soFar, into);
                    soFar.remove(soFar.size() - 1);
                }
            }
        }

        int far(int k) {
            if (k < -1 || k >= n()) return BAD;
            return farthest(strengths())[k + 1];
        }

        int son(int i, int x) {
            if (!isBearer(i) || x < 0 || x > 99) return BAD;
            int[] s = strengths();
            s[i] += x;
            return farthest(s)[0] - farthest(strengths())[0];
        }

        int cairn(int i, int k, int d) {
            if (!isBearer(i) || k < 0 || k >= told.stretches.size() || d < -9 || d > 9 || d == 0) return BAD;
            if (k == told.stretches.size() - 1) return NO;
            List<Stretch> hill = new ArrayList<>(told.stretches);
            hill.set(k, new Stretch(hill.get(k).yards() + d, hill.get(k).slope()));
            hill.set(k + 1, new Stretch(hill.get(k + 1).yards() - d, hill.get(k + 1).slope()));
            if (hill.stream().anyMatch(s -> s.yards() <= 0)) return NO;
            return new Way(this, hill, turns, strengths(), -1).acres[i] - now().acres[i] + 9999;
        }

        static int most(int[] of) {
            int m = 0;
            for (int i = 0; i < of.length; i++) {
                if (of[i] > of[m]) m = i;
            }
            return m;
        }

        int heir(int law) {
            if (law < 0 || law > 2) return BAD;
            Way w = now();
            int[] spent = strengths();
            for (int i = 0; i < n(); i++) spent[i] -= w.left[i];
            return most(law == 0 ? w.acres : law == 1 ? w.bore : spent);
        }

        /** What i and j have, if they choose stretches a and b. */
        int[] have(int i, int j, int a, int b) {
            int[] have = new int[2];
            int[] left = {told.bearers.get(i).strength(), told.bearers.get(j).strength()};
            int[] who = {i, j};
            boolean[] down = new boolean[2];
            int[] choice = {a, b};
            for (int s = 0; s < told.stretches.size(); s++) {
                for (int y = 0; y < told.stretches.get(s).yards(); y++) {
                    List<Integer> toBear = new ArrayList<>();
                    for (int k = 0; k < 2; k++) {
                        if (choice[k] == s && !down[k]) toBear.add(who[k]);
                    }
                    boolean[] bears = new boolean[2];
                    for (int k = 0; k < 2; k++) {
                        if (choice[k] == s && !down[k]) {
                            int cost = Way.cost(this, who[k], 1 + told.stretches.get(s).slope() + told.r, toBear);
                            if (left[k] < cost) {
                                down[k] = true;
                            } else {
                                left[k] -= cost;
                                bears[k] = true;
                            }
                        }
                    }
                    for (int k = 0; k < 2; k++) {
                        if (bears[k]) have[k] += bears[1 - k] ? 30 : 60;
                    }
                }
            }
            return have;
        }

        int rests(int i, int j, int what) {
            if (!isBearer(i) || !isBearer(j) || i == j || what < 0 || what > 1) return BAD;
            int n = told.stretches.size();
            int many = 0, first = NONE;
            for (int a = 0; a < n; a++) {
                for (int b = 0; b < n; b++) {
                    boolean rest = true;
                    for (int c = 0; c < n; c++) {
                        rest &= have(i, j, c, b)[0] <= have(i, j, a, b)[0];
                        rest &= have(i, j, a, c)[1] <= have(i, j, a, b)[1];
                    }
                    if (rest && many++ == 0) first = 8 * a + b;
                }
            }
            return what == 0 ? many : first;
        }

        int print(int y, int n) {
            if (y < 0 || y >= told.yards() || n < 0 || n > 6) return BAD;
            if (prints.size() == 8) return FULL;
            prints.add(new int[] {y, n});
            return prints.size();
        }

        int forget() {
            int were = prints.size();
            prints.clear();
            return were;
        }

        boolean so(Way w) {
            return prints.stream().allMatch(p -> Integer.bitCount(w.by[p[0]]) == p[1]);
        }

        int failed() {
            int set = so(now()) ? 64 : 0;
            for (int i = 0; i < n(); i++) {
                if (so(without(i))) set += 1 << i;
            }
            return set;
        }

        int odds(int n, int x, int part) {
            if (n < 0 || n > 5 || x < 0 || x > 10 || part < 0 || part > 1) return BAD;
            int first = Math.min(n, turns.size());
            long above = chance(0, first, x, new ArrayList<>());
            return fraction(above, (long) Math.pow(10, first), part);
        }

        long chance(int k, int first, int x, List<Turn> there) {
            if (k == first) {
                List<Turn> all = new ArrayList<>(there);
                all.addAll(turns.subList(first, turns.size()));
                return new Way(this, told.stretches, all, strengths(), -1).stands == NONE ? 1 : 0;
            }
            long gone = chance(k + 1, first, x, there);
            there.add(turns.get(k));
            long stays = chance(k + 1, first, x, there);
            there.remove(there.size() - 1);
            return x * gone + (10 - x) * stays;
        }

        int rain(int z, int what) {
            if (z < 0 || z > 9999 || what < 0 || what > 1) return BAD;
            Way w = new Way(this, told.stretches, turns, strengths(), z);
            return what == 0 ? w.stands : most(w.acres);
        }

        int keep() {
            if (kept.size() == 2) return FULL;
            kept.push(new ArrayList<>(turns));
            return kept.size();
        }

        int back() {
            if (kept.isEmpty()) return NO;
            turns = kept.pop();
            undone.clear();
            return kept.size();
        }

        int count(int what) {
            if (what < 0 || what > 9) return BAD;
            return new int[] {told.stretches.size(), told.yards(), n(), told.m, told.r, turns.size(), prints.size(),
                undone.size(), kept.size(), text.length()}[what];
        }
    }

    static void due(String history, String call, int got, int want) {
        calls++;
        if (got != want) {
            wrong++;
            if (wrong < 20) System.out.println(history + " " + call + " answered " + got + ", due is " + want);
        }
    }

    static Random chance;

    static int pick(int low, int high) {
        return low + chance.nextInt(high - low + 1);
    }

    /** A number that is mostly right, now and then beside it or far off. */
    static int about(int low, int high) {
        int sort = chance.nextInt(40);
        if (sort == 0) return low - 1;
        if (sort == 1) return high + 1;
        if (sort == 2) return chance.nextBoolean() ? Integer.MIN_VALUE : Integer.MAX_VALUE;
        return high < low ? low : pick(low, high);
    }

    static String text() {
        StringBuilder t = new StringBuilder();
        int longest = chance.nextInt(3) == 0 ? 30 : 8;
        int strongest = chance.nextInt(3) == 0 ? 60 : 8;
        int stretches = pick(1, 6), bearers = pick(1, 6), top = 0;
        for (int k = 0; k < stretches; k++) {
            int l = Math.min(pick(1, longest), 120 - top);
            if (l > 0) t.append("s" + l + "," + pick(0, 5) + ";");
            top += Math.max(l, 0);
        }
        int sort = chance.nextInt(3);
        for (int k = 0; k < bearers; k++) {
            t.append("b" + pick(1, strongest) + "," + (sort == 0 ? 3 : pick(0, 3)) + ";");
        }
        if (chance.nextBoolean()) t.append("m" + pick(1, 3) + ";");
        if (chance.nextBoolean()) t.append("r" + pick(0, 3) + ";");
        int turns = pick(0, 9);
        for (int k = 0; k < turns; k++) {
            int a = chance.nextInt(3) == 0 ? 0 : pick(0, Math.min(99, top));
            int b = pick(a, Math.min(99, Math.max(a, top + 3)));
            t.append("t" + pick(0, bearers - 1) + "," + a + "," + b + ";");
        }
        int prices = pick(0, 2);
        for (int k = 0; k < prices; k++) t.append("x" + pick(0, Math.min(stretches, top) - 1) + "," + pick(1, 9) + ";");
        if (chance.nextInt(4) == 0) spoil(t);
        return t.toString();
    }

    static void spoil(StringBuilder t) {
        String signs = "sbmrtx,;0123456789 ~S";
        int changes = pick(1, 3);
        for (int k = 0; k < changes && t.length() > 1; k++) {
            int at = chance.nextInt(t.length());
            char sign = signs.charAt(chance.nextInt(signs.length()));
            int way = chance.nextInt(3);
            if (way == 0) t.setCharAt(at, sign);
            if (way == 1) t.insert(at, sign);
            if (way == 2) t.deleteCharAt(at);
        }
    }

    static void tell(ShoulderHeirs x, Model m, String run) {
        String text = text();
        due(run, "wipe()", x.wipe(), m.wipe());
        for (char c : text.toCharArray()) due(run, "write " + text, x.write(c), m.write(c));
        due(run, "fault " + text, x.fault(), m.fault());
        due(run, "lay " + text, x.lay(), m.lay());
    }

    static void look(ShoulderHeirs x, Model m, String run) {
        for (int y = -1; y <= m.told.yards(); y++) {
            for (int w = -1; w <= 5; w++) due(run, "yard " + y + " " + w, x.yard(y, w), m.yard(y, w));
        }
        for (int i = -1; i <= m.n(); i++) {
            for (int w = -1; w <= 6; w++) due(run, "bearer " + i + " " + w, x.bearer(i, w), m.bearer(i, w));
            for (int w = -1; w <= 2; w++) due(run, "share " + i + " " + w, x.share(i, w), m.share(i, w));
        }
        for (int k = -1; k <= m.turns.size(); k++) {
            for (int w = -1; w <= 3; w++) due(run, "turn " + k + " " + w, x.turn(k, w), m.turn(k, w));
        }
        due(run, "stands", x.stands(), m.stands());
        for (int w = -1; w <= 10; w++) due(run, "count " + w, x.count(w), m.count(w));
        for (int w = -1; w <= 3; w++) due(run, "heir " + w, x.heir(w), m.heir(w));
    }

    static void change(ShoulderHeirs x, Model m, String run) {
        int n = m.n() - 1;
        int a = about(0, chance.nextInt(4) == 0 ? 119 : m.told.yards());
        int b = about(Math.max(0, Math.min(a, 119)), 119);
        switch (pick(0, 9)) {
            case 0: case 1: case 2: case 3: {
                int i = about(0, n);
                due(run, "bear " + i + " " + a + " " + b, x.bear(i, a, b), m.bear(i, a, b));
                break;
            }
            case 4: case 5: {
                int k = about(0, m.turns.size() - 1);
                due(run, "leave " + k, x.leave(k), m.leave(k));
                break;
            }
            case 6: case 7: due(run, "undo", x.undo(), m.undo()); break;
            case 8: due(run, "keep", x.keep(), m.keep()); break;
            default: due(run, "back", x.back(), m.back()); break;
        }
    }

    static void wonder(ShoulderHeirs x, Model m, String run, boolean dear) {
        int n = m.n() - 1;
        int i = about(0, n), j = about(0, n), w = about(0, 1), k = about(0, m.told.stretches.size() - 1);
        int d = about(-9, 9), q = about(0, 99), z = about(0, 9999), f = about(-1, n), c = about(0, 5), o = about(0, 10);
        due(run, "safe", x.safe(), m.safe());
        due(run, "needed", x.needed(), m.needed());
        due(run, "far " + f, x.far(f), m.far(f));
        due(run, "son " + i + " " + q, x.son(i, q), m.son(i, q));
        due(run, "cairn " + i + " " + k + " " + d, x.cairn(i, k, d), m.cairn(i, k, d));
        due(run, "rests " + i + " " + j + " " + w, x.rests(i, j, w), m.rests(i, j, w));
        due(run, "odds " + c + " " + o + " " + w, x.odds(c, o, w), m.odds(c, o, w));
        due(run, "rain " + z + " " + w, x.rain(z, w), m.rain(z, w));
        if (dear) due(run, "best " + i + " " + w, x.best(i, w), m.best(i, w));
        if (chance.nextBoolean()) due(run, "forget", x.forget(), m.forget());
        int y = about(0, m.told.yards() - 1);
        int p = m.told.yards() > y && y >= 0 && chance.nextInt(3) > 0 && m.n() > 0
            ? Integer.bitCount((chance.nextBoolean() ? m.now() : m.without(pick(0, n))).by[y]) : about(0, 6);
        due(run, "print " + y + " " + p, x.print(y, p), m.print(y, p));
        due(run, "failed", x.failed(), m.failed());
    }

    public static void main(String[] args) {
        int runs = args.length > 0 ? Integer.parseInt(args[0]) : 250;
        long seed = args.length > 1 ? Long.parseLong(args[1]) : 1;
        for (int r = 0; r < runs; r++) {
            chance = new Random(seed * 1000003 + r);
            ShoulderHeirs x = new ShoulderHeirs();
            Model m = new Model();
            String run = "run " + r + ":";
            if (r % 8 != 0) tell(x, m, run);
            for (int round = 0; round < 6; round++) {
                look(x, m, run);
                wonder(x, m, run, m.told.yards() <= 40 || round == 0 && r % 4 == 0);
                for (int k = 0; k < 4; k++) change(x, m, run);
                if (chance.nextInt(12) == 0) tell(x, m, run);
            }
        }
        System.out.println("ModelTest: " + calls + " calls, " + wrong + " wrong");
        if (wrong > 0) System.exit(1);
    }
}
