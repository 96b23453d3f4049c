/** A farm parted by how many yards each bearer bore the coffin up a hill. */
public final class ShoulderHeirs {
    public static final int BAD = -1, NO = -2, FULL = -3, NONE = -4;

    private static final int MOST_LETTERS = 200;
    private static final int MOST_STRETCHES = 6;
    private static final int LONGEST_STRETCH = 30;
    private static final int STEEPEST = 5;
    private static final int MOST_YARDS = 120;
    private static final int MOST_BEARERS = 6;
    private static final int STRONGEST = 60;
    private static final int MOST_AT_ONCE = 3;
    private static final int WETTEST = 3;
    private static final int HIGHEST_PRICE = 9;
    private static final int MOST_TURNS = 9;
    private static final int MOST_PRINTS = 8;
    private static final int MOST_UNDONE = 8;
    private static final int MOST_KEPT = 2;
    private static final int MOST_IN_ODDS = 5;

    private static final int LIMPING = 1;
    private static final int HIRED = 2;
    private static final int TWIN = 3;

    private static final int SIXTIETHS = 60;
    private static final int AS_IT_IS = 64;
    private static final int CAIRN_ZERO = 9999;
    private static final int DRY = -1;
    private static final int NOBODY = -1;

    private static final String FIRST_TEXT =
        "s10,0;s8,3;s12,1;b6,0;b3,1;b9,2;b4,3;b4,3;m1;t0,0,9;t1,4,12;t2,10,20;t3,18,29;t4,18,29;x1,2;";

    private final char[] letters = new char[MOST_LETTERS];
    private int length;
    private final Reader reader = new Reader();
    private final Funeral funeral = new Funeral();
    private final Funeral moved = new Funeral();
    private final Turns turns = new Turns();
    private final Pile undone = new Pile(MOST_UNDONE);
    private final Pile kept = new Pile(MOST_KEPT);
    private final int[] printYard = new int[MOST_PRINTS];
    private final int[] printBearers = new int[MOST_PRINTS];
    private int prints;
    private final int[] duty = new int[MOST_YARDS];
    private final int[] otherDuty = new int[MOST_YARDS];
    private final Walk now = new Walk(funeral);
    private final Walk trial = new Walk(funeral);
    private final TurnSearch turnSearch = new TurnSearch(funeral, duty);
    private final OrderSearch orderSearch = new OrderSearch(funeral);
    private final Choices choices = new Choices(funeral);

    public ShoulderHeirs() {
        int size = Math.min(FIRST_TEXT.length(), MOST_LETTERS);
        for (int p = 0; p < size; p++) {
            letters[p] = FIRST_TEXT.charAt(p);
        }
        length = size;
        layText();
        length = 0;
    }

    // ---- hills

    public int write(int letter) {
        if (!within(letter, 32, 126)) {
            return BAD;
        }
        if (length >= MOST_LETTERS) {
            return FULL;
        }
        letters[length] = (char) letter;
        length++;
        return length;
    }

    public int wipe() {
        int was = length;
        length = 0;
        return was;
    }

    public int fault() {
        return reader.firstFault(letters, length);
    }

    public int lay() {
        return layText();
    }

    public int yard(int y, int what) {
        if (!funeral.hasYard(y)) {
            return BAD;
        }
        switch (what) {
            case 0: return funeral.stretchAt[y];
            case 1: return funeral.slopeAt(y);
            case 2: return funeral.priceAt(y);
            case 3: return duty[y];
            case 4: return now.bore[y];
            default: return BAD;
        }
    }

    public int bearer(int i, int what) {
        if (!funeral.hasBearer(i)) {
            return BAD;
        }
        switch (what) {
            case 0: return funeral.strength[i];
            case 1: return funeral.kind[i];
            case 2: return now.left[i];
            case 3: return now.acres(i);
            case 4: return now.stumbledAt[i];
            case 5: return now.borne[i];
            default: return BAD;
        }
    }

    public int stands() {
        return now.standsAt;
    }

    public int share(int i, int part) {
        if (!funeral.hasBearer(i) || !within(part, 0, 1)) {
            return BAD;
        }
        int all = 0;
        for (int k = 0; k < funeral.bearers; k++) {
            all += now.acres(k);
        }
        return lowestTerms(now.acres(i), all, part);
    }

    // ---- turns

    public int turn(int k, int what) {
        if (!turns.has(k)) {
            return BAD;
        }
        switch (what) {
            case 0: return turns.who[k];
            case 1: return turns.from[k];
            case 2: return turns.to[k];
            default: return BAD;
        }
    }

    public int bear(int i, int a, int b) {
        if (!funeral.hasBearer(i) || !within(a, 0, MOST_YARDS - 1) || !within(b, a, MOST_YARDS - 1)) {
            return BAD;
        }
        if (turns.isFull()) {
            return FULL;
        }
        undone.push(turns);
        turns.add(i, a, b);
        settle();
        return turns.size;
    }

    public int leave(int k) {
        if (!turns.has(k)) {
            return BAD;
        }
        undone.push(turns);
        turns.drop(k);
        settle();
        return turns.size;
    }

    public int undo() {
        if (!undone.popInto(turns)) {
            return NO;
        }
        settle();
        return undone.size;
    }

    // ---- what would be

    public int best(int i, int what) {
        if (!funeral.hasBearer(i) || !within(what, 0, 1)) {
            return BAD;
        }
        if (!turnSearch.seek(i, now.acres(i))) {
            return NONE;
        }
        return what == 0 ? 200 * turnSearch.from + turnSearch.to : turnSearch.acres;
    }

    public int safe() {
        for (int i = 0; i < funeral.bearers; i++) {
            walkWithout(i);
            if (trial.standsAt != NONE) {
                return i;
            }
        }
        return NONE;
    }

    public int needed() {
        int fewest = NONE;
        int size = MOST_BEARERS + 1;
        for (int set = 1; set < 1 << funeral.bearers; set++) {
            if (Integer.bitCount(set) < size && bearUpAlone(set)) {
                fewest = set;
                size = Integer.bitCount(set);
            }
        }
        return fewest;
    }

    public int far(int k) {
        if (k != -1 && !funeral.hasBearer(k)) {
            return BAD;
        }
        orderSearch.seek(NOBODY, 0);
        return k == -1 ? orderSearch.reach : orderSearch.order[k];
    }

    public int son(int i, int x) {
        if (!funeral.hasBearer(i) || !within(x, 0, 99)) {
            return BAD;
        }
        orderSearch.seek(NOBODY, 0);
        int before = orderSearch.reach;
        orderSearch.seek(i, x);
        return orderSearch.reach - before;
    }

    public int cairn(int i, int k, int d) {
        if (!funeral.hasBearer(i) || !funeral.hasStretch(k) || !within(d, -9, 9) || d == 0) {
            return BAD;
        }
        moved.copy(funeral);
        if (!moved.moveBorder(k, d)) {
            return NO;
        }
        trial.begin(moved);
        trial.go(duty);
        return trial.acres(i) - now.acres(i) + CAIRN_ZERO;
    }

    public int heir(int law) {
        if (!within(law, 0, 2)) {
            return BAD;
        }
        return now.first(law);
    }

    // ---- choices, prints

    public int rests(int i, int j, int what) {
        if (!funeral.hasBearer(i) || !funeral.hasBearer(j) || i == j || !within(what, 0, 1)) {
            return BAD;
        }
        choices.weigh(i, j);
        return what == 0 ? choices.restsFound : choices.firstRest;
    }

    public int print(int y, int n) {
        if (!funeral.hasYard(y) || !within(n, 0, 6)) {
            return BAD;
        }
        if (prints >= MOST_PRINTS) {
            return FULL;
        }
        printYard[prints] = y;
        printBearers[prints] = n;
        prints++;
        return prints;
    }

    public int forget() {
        int were = prints;
        prints = 0;
        return were;
    }

    public int failed() {
        int found = printsAreSo(now) ? AS_IT_IS : 0;
        for (int i = 0; i < funeral.bearers; i++) {
            walkWithout(i);
            if (printsAreSo(trial)) {
                found |= 1 << i;
            }
        }
        return found;
    }

    public int odds(int n, int x, int part) {
        if (!within(n, 0, MOST_IN_ODDS) || !within(x, 0, 10) || !within(part, 0, 1)) {
            return BAD;
        }
        int doubtful = Math.min(n, turns.size);
        int above = 0;
        int below = power(10, doubtful);
        for (int gone = 0; gone < 1 << doubtful; gone++) {
            int missing = Integer.bitCount(gone);
            int weight = power(x, missing) * power(10 - x, doubtful - missing);
            if (weight > 0 && neverStandsWithout(gone)) {
                above += weight;
            }
        }
        return lowestTerms(above, below, part);
    }

    public int rain(int z, int what) {
        if (!within(z, 0, 9999) || !within(what, 0, 1)) {
            return BAD;
        }
        trial.begin(funeral);
        trial.day = z;
        trial.go(duty);
        return what == 0 ? trial.standsAt : trial.first(0);
    }

    // ---- kept

    public int keep() {
        if (kept.isFull()) {
            return FULL;
        }
        kept.push(turns);
        return kept.size;
    }

    public int back() {
        if (!kept.popInto(turns)) {
            return NO;
        }
        undone.size = 0;
        settle();
        return kept.size;
    }

    public int count(int what) {
        switch (what) {
            case 0: return funeral.stretches;
            case 1: return funeral.yards;
            case 2: return funeral.bearers;
            case 3: return funeral.must;
            case 4: return funeral.wet;
            case 5: return turns.size;
            case 6: return prints;
            case 7: return undone.size;
            case 8: return kept.size;
            case 9: return length;
            default: return BAD;
        }
    }

    private int layText() {
        if (reader.firstFault(letters, length) != NONE) {
            return NO;
        }
        if (reader.funeral.stretches == 0 || reader.funeral.bearers == 0) {
            return NO;
        }
        funeral.copy(reader.funeral);
        turns.copy(reader.turns);
        prints = 0;
        undone.size = 0;
        kept.size = 0;
        settle();
        return funeral.yards;
    }

    /** The walk as it is, kept beside the turns, as most calls ask for it. */
    private void settle() {
        turns.tellDuty(0, funeral.yards, duty);
        now.begin(funeral);
        now.go(duty);
    }

    private void walkWithout(int i) {
        trial.begin(funeral);
        trial.left[i] = 0;
        trial.go(duty);
    }

    private boolean bearUpAlone(int set) {
        for (int y = 0; y < funeral.yards; y++) {
            otherDuty[y] = set;
        }
        trial.begin(funeral);
        trial.go(otherDuty);
        return trial.standsAt == NONE;
    }

    private boolean neverStandsWithout(int gone) {
        turns.tellDuty(gone, funeral.yards, otherDuty);
        trial.begin(funeral);
        trial.go(otherDuty);
        return trial.standsAt == NONE;
    }

    private boolean printsAreSo(Walk walk) {
        for (int p = 0; p < prints; p++) {
            if (Integer.bitCount(walk.bore[printYard[p]]) != printBearers[p]) {
                return false;
            }
        }
        return true;
    }

    private static boolean within(int number, int low, int high) {
        return number >= low && number <= high;
    }

    private static boolean isIn(int i, int set) {
        return (set >> i & 1) != 0;
    }

    private static int power(int of, int times) {
        int product = 1;
        for (int t = 0; t < times; t++) {
            product *= of;
        }
        return product;
    }

    private static int lowestTerms(int above, int below, int part) {
        if (above == 0 || below == 0) {
            return part == 0 ? 0 : 1;
        }
        int divisor = commonDivisor(above, below);
        if (divisor == 0) {
            return part == 0 ? above : below;
        }
        return (part == 0 ? above : below) / divisor;
    }

    private static int commonDivisor(int one, int other) {
        int a = one;
        int b = other;
        // Euclid needs fewer than 50 steps for any two ints.
        for (int step = 0; step < 100 && b != 0; step++) {
            int rest = a % b;
            a = b;
            b = rest;
        }
        return a;
    }

    /** What a yard costs one of those who are to bear it; base is ahead of his kind. */
    private static int toll(int base, int kind, int toBear, int twinsToBear) {
        int whole = base;
        if (kind == LIMPING) {
            whole = 2 * base;
        } else if (kind == TWIN && twinsToBear > 1) {
            whole = base - 1;
        }
        int each = toBear > 1 ? whole / toBear : whole;
        return each < 1 ? 1 : each;
    }

    /** All that is told of a funeral but its turns. */
    private static final class Funeral {
        int stretches;
        int yards;
        int bearers;
        int must;
        int wet;
        final int[] length = new int[MOST_STRETCHES];
        final int[] slope = new int[MOST_STRETCHES];
        final int[] price = new int[MOST_STRETCHES];
        final int[] strength = new int[MOST_BEARERS];
        final int[] kind = new int[MOST_BEARERS];
        final int[] stretchAt = new int[MOST_YARDS];

        void clear() {
            stretches = 0;
            yards = 0;
            bearers = 0;
            must = 1;
            wet = 0;
        }

        boolean addStretch(int yardsMore, int steep) {
            if (stretches >= MOST_STRETCHES || !within(yardsMore, 1, LONGEST_STRETCH)
                || yards + yardsMore > MOST_YARDS || !within(steep, 0, STEEPEST)) {
                return false;
            }
            length[stretches] = yardsMore;
            slope[stretches] = steep;
            price[stretches] = 1;
            stretches++;
            yards += yardsMore;
            return true;
        }

        boolean addBearer(int tenths, int sort) {
            if (bearers >= MOST_BEARERS || !within(tenths, 1, STRONGEST) || !within(sort, 0, TWIN)) {
                return false;
            }
            strength[bearers] = 10 * tenths;
            kind[bearers] = sort;
            bearers++;
            return true;
        }

        boolean setMust(int atOnce) {
            if (!within(atOnce, 1, MOST_AT_ONCE)) {
                return false;
            }
            must = atOnce;
            return true;
        }

        boolean setWet(int more) {
            if (!within(more, 0, WETTEST)) {
                return false;
            }
            wet = more;
            return true;
        }

        boolean setPrice(int n, int times) {
            if (!hasStretch(n) || !within(times, 1, HIGHEST_PRICE)) {
                return false;
            }
            price[n] = times;
            return true;
        }

        void copy(Funeral other) {
            stretches = other.stretches;
            yards = other.yards;
            bearers = other.bearers;
            must = other.must;
            wet = other.wet;
            System.arraycopy(other.length, 0, length, 0, MOST_STRETCHES);
            System.arraycopy(other.slope, 0, slope, 0, MOST_STRETCHES);
            System.arraycopy(other.price, 0, price, 0, MOST_STRETCHES);
            System.arraycopy(other.strength, 0, strength, 0, MOST_BEARERS);
            System.arraycopy(other.kind, 0, kind, 0, MOST_BEARERS);
            markYards();
        }

        /** False, with nothing changed, if a stretch would be of no yard, or none is behind the border. */
        boolean moveBorder(int k, int d) {
            if (k < 0 || k + 1 >= stretches || length[k] + d < 1 || length[k + 1] - d < 1) {
                return false;
            }
            length[k] += d;
            length[k + 1] -= d;
            markYards();
            return true;
        }

        private void markYards() {
            int y = 0;
            for (int n = 0; n < stretches; n++) {
                for (int k = 0; k < length[n] && y < MOST_YARDS; k++) {
                    stretchAt[y] = n;
                    y++;
                }
            }
        }

        boolean hasStretch(int n) {
            return n >= 0 && n < stretches;
        }

        boolean hasYard(int y) {
            return y >= 0 && y < yards;
        }

        boolean hasBearer(int i) {
            return i >= 0 && i < bearers;
        }

        int slopeAt(int y) {
            return slope[stretchAt[y]];
        }

        int priceAt(int y) {
            return price[stretchAt[y]];
        }

        int twins() {
            int set = 0;
            for (int i = 0; i < bearers; i++) {
                if (kind[i] == TWIN) {
                    set |= 1 << i;
                }
            }
            return set;
        }
    }

    private static final class Turns {
        int size;
        final int[] who = new int[MOST_TURNS];
        final int[] from = new int[MOST_TURNS];
        final int[] to = new int[MOST_TURNS];

        boolean has(int k) {
            return k >= 0 && k < size;
        }

        boolean isFull() {
            return size >= MOST_TURNS;
        }

        boolean add(int i, int a, int b) {
            if (isFull() || a > b) {
                return false;
            }
            who[size] = i;
            from[size] = a;
            to[size] = b;
            size++;
            return true;
        }

        void drop(int k) {
            for (int t = k; t + 1 < size; t++) {
                who[t] = who[t + 1];
                from[t] = from[t + 1];
                to[t] = to[t + 1];
            }
            size--;
        }

        void copy(Turns other) {
            size = other.size;
            System.arraycopy(other.who, 0, who, 0, MOST_TURNS);
            System.arraycopy(other.from, 0, from, 0, MOST_TURNS);
            System.arraycopy(other.to, 0, to, 0, MOST_TURNS);
        }

        /** Who is to bear each yard, as bits, were the turns whose bits are in gone not there. */
        void tellDuty(int gone, int yards, int[] duty) {
            for (int y = 0; y < yards; y++) {
                duty[y] = 0;
            }
            for (int t = 0; t < size; t++) {
                if (!isIn(t, gone)) {
                    for (int y = from[t]; y <= to[t] && y < yards; y++) {
                        duty[y] |= 1 << who[t];
                    }
                }
            }
        }
    }

    /** Turns as they were, the latest on top; if it is full, the oldest falls out below. */
    private static final class Pile {
        final Turns[] row;
        int size;

        Pile(int most) {
            row = new Turns[most];
            for (int k = 0; k < most; k++) {
                row[k] = new Turns();
            }
        }

        boolean isFull() {
            return size >= row.length;
        }

        void push(Turns turns) {
            if (isFull()) {
                dropOldest();
            }
            row[size].copy(turns);
            size++;
        }

        private void dropOldest() {
            Turns oldest = row[0];
            for (int k = 0; k + 1 < row.length; k++) {
                row[k] = row[k + 1];
            }
            // Its rows are used again, so that no call makes new ones.
            row[row.length - 1] = oldest;
            size--;
        }

        boolean popInto(Turns turns) {
            if (size == 0) {
                return false;
            }
            size--;
            turns.copy(row[size]);
            return true;
        }
    }

    /** Reads a text, item by item, into a funeral and turns of its own. */
    private static final class Reader {
        final Funeral funeral = new Funeral();
        final Turns turns = new Turns();
        private final int[] number = new int[3];

        int firstFault(char[] letters, int length) {
            funeral.clear();
            turns.size = 0;
            int at = 0;
            while (at < length) {
                int sort = letters[at];
                int behind = readNumbers(letters, at + 1, length, numbersOf(sort));
                if (behind <= at || !take(sort)) {
                    return at;
                }
                at = behind;
            }
            return NONE;
        }

        private static int numbersOf(int sort) {
            switch (sort) {
                case 'm': case 'r': return 1;
                case 's': case 'b': case 'x': return 2;
                case 't': return 3;
                default: return 0;
            }
        }

        /** The place behind the item's end; NONE if it has no such numbers. */
        private int readNumbers(char[] letters, int start, int length, int wanted) {
            int at = start;
            for (int k = 0; k < wanted; k++) {
                int first = at;
                number[k] = 0;
                while (at < length && at < first + 2 && within(letters[at], '0', '9')) {
                    number[k] = 10 * number[k] + letters[at] - '0';
                    at++;
                }
                char end = k + 1 < wanted ? ',' : ';';
                if (at == first || at >= length || letters[at] != end) {
                    return NONE;
                }
                at++;
            }
            return wanted > 0 ? at : NONE;
        }

        private boolean take(int sort) {
            switch (sort) {
                case 's': return funeral.addStretch(number[0], number[1]);
                case 'b': return funeral.addBearer(number[0], number[1]);
                case 'm': return funeral.setMust(number[0]);
                case 'r': return funeral.setWet(number[0]);
                case 't': return funeral.hasBearer(number[0]) && turns.add(number[0], number[1], number[2]);
                case 'x': return funeral.setPrice(number[0], number[1]);
                default: return false;
            }
        }
    }

    /** The coffin's way up, yard by yard. */
    private static final class Walk {
        Funeral funeral;
        int must;
        int day;
        int standsAt;
        int stumbled;
        int twins;
        final int[] left = new int[MOST_BEARERS];
        final int[] stumbledAt = new int[MOST_BEARERS];
        final int[] borne = new int[MOST_BEARERS];
        final int[] gained = new int[MOST_BEARERS];
        final int[] bore = new int[MOST_YARDS];
        private final int[] cost = new int[MOST_BEARERS];

        Walk(Funeral of) {
            funeral = of;
        }

        void begin(Funeral of) {
            funeral = of;
            must = of.must;
            day = DRY;
            standsAt = NONE;
            stumbled = 0;
            twins = of.twins();
            for (int i = 0; i < MOST_BEARERS; i++) {
                left[i] = of.strength[i];
                stumbledAt[i] = NONE;
                borne[i] = 0;
                gained[i] = 0;
            }
        }

        /** As far as the other one has come, but for who bore which yard. */
        void follow(Walk other) {
            funeral = other.funeral;
            must = other.must;
            day = other.day;
            standsAt = other.standsAt;
            stumbled = other.stumbled;
            twins = other.twins;
            System.arraycopy(other.left, 0, left, 0, MOST_BEARERS);
            System.arraycopy(other.stumbledAt, 0, stumbledAt, 0, MOST_BEARERS);
            System.arraycopy(other.borne, 0, borne, 0, MOST_BEARERS);
            System.arraycopy(other.gained, 0, gained, 0, MOST_BEARERS);
        }

        void go(int[] duty) {
            for (int y = 0; y < funeral.yards; y++) {
                bore[y] = step(y, duty[y]);
            }
        }

        /** One yard more: who bears it, as bits. */
        int step(int y, int duty) {
            if (standsAt != NONE) {
                return 0;
            }
            int toBear = duty & ~stumbled;
            setCosts(toBear, 1 + funeral.slopeAt(y) + funeral.wet + drawnAt(y));
            int bearing = toBear & ~stumbling(toBear, y);
            if (Integer.bitCount(bearing) < must) {
                standsAt = y;
                return 0;
            }
            bringUp(bearing, SIXTIETHS * funeral.priceAt(y));
            return bearing;
        }

        private void setCosts(int toBear, int base) {
            int many = Integer.bitCount(toBear);
            int twinsToBear = Integer.bitCount(toBear & twins);
            for (int i = 0; i < funeral.bearers; i++) {
                if (isIn(i, toBear)) {
                    cost[i] = toll(base, funeral.kind[i], many, twinsToBear);
                }
            }
        }

        private int stumbling(int toBear, int y) {
            int fallen = 0;
            for (int i = 0; i < funeral.bearers; i++) {
                if (isIn(i, toBear) && left[i] < cost[i]) {
                    fallen |= 1 << i;
                    stumbledAt[i] = y;
                }
            }
            stumbled |= fallen;
            return fallen;
        }

        private void bringUp(int bearing, int worth) {
            int many = Integer.bitCount(bearing);
            int part = many > 0 ? worth / many : 0;
            for (int i = 0; i < funeral.bearers; i++) {
                if (isIn(i, bearing)) {
                    left[i] -= cost[i];
                    borne[i]++;
                    gained[i] += part;
                }
            }
        }

        /** What the draws of a rainy day add. */
        private int drawnAt(int y) {
            if (day == DRY) {
                return 0;
            }
            // As a long: the square is far beyond an int.
            long q = 7919L * day + 6151L * y + 1;
            return (int) (q * q % 65521 % 3);
        }

        boolean hasStumbled(int i) {
            return isIn(i, stumbled);
        }

        int acres(int i) {
            return funeral.kind[i] == HIRED || hasStumbled(i) ? 0 : gained[i];
        }

        /** The heir by a law. */
        int first(int law) {
            int heir = 0;
            for (int i = 1; i < funeral.bearers; i++) {
                if (merit(i, law) > merit(heir, law)) {
                    heir = i;
                }
            }
            return heir;
        }

        private int merit(int i, int law) {
            switch (law) {
                case 0: return acres(i);
                case 1: return borne[i];
                default: return funeral.strength[i] - left[i];
            }
        }
    }

    /** Looks for the turn more by which a bearer has most. */
    private static final class TurnSearch {
        int acres;
        int from;
        int to;
        private int who;
        private int lastOfHis;
        private boolean found;
        private final Funeral funeral;
        private final int[] duty;
        private final Walk head;
        private final Walk middle;
        private final Walk tail;
        private final int[] mostBehind = new int[MOST_YARDS + 1];

        TurnSearch(Funeral of, int[] duties) {
            funeral = of;
            duty = duties;
            head = new Walk(of);
            middle = new Walk(of);
            tail = new Walk(of);
        }

        /** False, if by no turn he has more than he has now. */
        boolean seek(int i, int acresNow) {
            acres = acresNow;
            who = i;
            found = false;
            if (funeral.kind[i] == HIRED) {
                return false;
            }
            lookAhead();
            head.begin(funeral);
            for (int a = 0; a < funeral.yards && isOpen(head); a++) {
                // Where the yard before is his already, the turn from there was as good, and lower.
                if (a == 0 || !isIn(who, duty[a - 1])) {
                    seekFrom(a);
                }
                head.step(a, duty[a]);
            }
            return found;
        }

        /** The acres that he can have at most by the turns there are, from each yard on. */
        private void lookAhead() {
            lastOfHis = NONE;
            mostBehind[funeral.yards] = 0;
            for (int y = funeral.yards - 1; y >= 0; y--) {
                boolean his = isIn(who, duty[y]);
                mostBehind[y] = mostBehind[y + 1] + (his ? SIXTIETHS * funeral.priceAt(y) : 0);
                if (his && lastOfHis == NONE) {
                    lastOfHis = y;
                }
            }
        }

        private boolean isOpen(Walk walk) {
            return walk.standsAt == NONE && !walk.hasStumbled(who);
        }

        private void seekFrom(int a) {
            middle.follow(head);
            for (int b = a; b < funeral.yards && isOpen(middle); b++) {
                middle.step(b, duty[b] | 1 << who);
                // A last yard that was his already adds nothing to the turn that ends before it.
                if (!isIn(who, duty[b])) {
                    weigh(a, b);
                }
            }
        }

        private void weigh(int a, int b) {
            if (middle.acres(who) + mostBehind[b + 1] <= acres) {
                return;
            }
            tail.follow(middle);
            // Behind his last yard nothing changes what he has.
            for (int y = b + 1; y <= lastOfHis && isOpen(tail); y++) {
                tail.step(y, duty[y]);
            }
            if (tail.acres(who) > acres) {
                acres = tail.acres(who);
                from = a;
                to = b;
                found = true;
            }
        }
    }

    /** Looks for the order in which the bearers, one by one, come farthest. */
    private static final class OrderSearch {
        int reach;
        final int[] order = new int[MOST_BEARERS];
        private final int[] tried = new int[MOST_BEARERS];
        private final Funeral funeral;
        private int stronger;
        private int more;

        OrderSearch(Funeral of) {
            funeral = of;
        }

        void seek(int strongerOne, int by) {
            stronger = strongerOne;
            more = by;
            reach = NONE;
            tryNext(this, 0, 0, 0);
        }

        /** All orders of those who are not in used, behind those tried so far, the lowest first. */
        private static void tryNext(OrderSearch search, int depth, int used, int at) {
            if (depth >= search.funeral.bearers || depth >= MOST_BEARERS) {
                search.note(at);
                return;
            }
            for (int i = 0; i < search.funeral.bearers && search.reach < search.funeral.yards; i++) {
                if (!isIn(i, used)) {
                    search.tried[depth] = i;
                    tryNext(search, depth + 1, used | 1 << i, search.goAlone(i, at));
                }
            }
        }

        private void note(int at) {
            if (at > reach) {
                reach = at;
                System.arraycopy(tried, 0, order, 0, MOST_BEARERS);
            }
        }

        private int goAlone(int i, int start) {
            int left = funeral.strength[i] + (i == stronger ? more : 0);
            for (int y = start; y < funeral.yards; y++) {
                left -= toll(1 + funeral.slopeAt(y) + funeral.wet, funeral.kind[i], 1, 1);
                if (left < 0) {
                    return y;
                }
            }
            return funeral.yards;
        }
    }

    /** What two bearers have who choose a stretch each. */
    private static final class Choices {
        int restsFound;
        int firstRest;
        private final Funeral funeral;
        private final Walk walk;
        private final int[] firstAlone = new int[MOST_STRETCHES];
        private final int[] firstBoth = new int[MOST_STRETCHES];
        private final int[] otherAlone = new int[MOST_STRETCHES];
        private final int[] otherBoth = new int[MOST_STRETCHES];
        private int firstHas;
        private int otherHas;

        Choices(Funeral of) {
            funeral = of;
            walk = new Walk(of);
        }

        void weigh(int i, int j) {
            fill(i, j);
            restsFound = 0;
            firstRest = NONE;
            for (int a = 0; a < funeral.stretches; a++) {
                for (int b = 0; b < funeral.stretches; b++) {
                    if (isRest(a, b)) {
                        restsFound++;
                        firstRest = firstRest == NONE ? 8 * a + b : firstRest;
                    }
                }
            }
        }

        private void fill(int i, int j) {
            int start = 0;
            for (int n = 0; n < funeral.stretches; n++) {
                int end = start + funeral.length[n];
                bearStretch(start, end, i, j, 1 << i);
                firstAlone[n] = firstHas;
                bearStretch(start, end, i, j, 1 << j);
                otherAlone[n] = otherHas;
                bearStretch(start, end, i, j, 1 << i | 1 << j);
                firstBoth[n] = firstHas;
                otherBoth[n] = otherHas;
                start = end;
            }
        }

        private void bearStretch(int start, int end, int i, int j, int duty) {
            walk.begin(funeral);
            // How many must bear it does not matter here.
            walk.must = 0;
            firstHas = 0;
            otherHas = 0;
            for (int y = start; y < end; y++) {
                int bearing = walk.step(y, duty);
                int each = Integer.bitCount(bearing) > 1 ? SIXTIETHS / 2 : SIXTIETHS;
                firstHas += isIn(i, bearing) ? each : 0;
                otherHas += isIn(j, bearing) ? each : 0;
            }
        }

        private boolean isRest(int a, int b) {
            for (int n = 0; n < funeral.stretches; n++) {
                if (ofFirst(n, b) > ofFirst(a, b) || ofOther(a, n) > ofOther(a, b)) {
                    return false;
                }
            }
            return true;
        }

        private int ofFirst(int a, int b) {
            return a == b ? firstBoth[a] : firstAlone[a];
        }

        private int ofOther(int a, int b) {
            return a == b ? otherBoth[b] : otherAlone[b];
        }
    }
}
