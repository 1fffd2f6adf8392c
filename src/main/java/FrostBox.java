import java.util.NoSuchElementException;

/** A freezer of boxes one above the other, as ../shared/DOC.md tells it. */
public final class FrostBox {
    public static final int NONE = -1;
    public static final int HIDDEN = -1000000;

    private static final int TAPE_BYTES = 240;
    private static final int KINDS_MOST = 6;
    private static final int BOXES_MOST = 8;
    private static final int TEXTS_MOST = 4;
    private static final int STEPS_MOST = 16;
    private static final int NESTED_MOST = 6;
    private static final int ACTS_MOST = 40;
    private static final int MEALS_MOST = 60;
    private static final int LOOKS_MOST = 12;
    private static final int FINDS_MOST = 10;
    private static final int ROW = 6;
    private static final int ROWS_MOST = 720;
    private static final int AGE_MOST = 99;
    private static final int MONTH_MOST = 999;
    private static final int MONTHS_AT_ONCE = 60;
    private static final int HOURS_MOST = 99;
    private static final int PORTIONS_MOST = 9;
    private static final int LOSS_MOST = 9;
    private static final int DINNER_MOST = 30;
    private static final int NUMBER_BOUND = 1000000;

    private static final int ROOM = 0;
    private static final int HOURS = 1;
    private static final int HOLDS = 2;
    private static final int WRONG = 3;

    private static final int COLOUR = 0;
    private static final int WEIGHT = 1;
    private static final int KEEPS = 2;
    private static final int WORTH = 3;
    private static final int GOES_WITH = 4;
    private static final int GOES_WITH_NONE = 6;

    private static final char[] RULE_LETTERS = {'r', 'h', 'l', 'e'};
    private static final int[] RULE_FIRST = {40, 9, 6, 1};
    private static final int[] RULE_LEAST = {1, 0, 1, 0};
    private static final int[] RULE_MOST = {99, 24, 99, 5};
    private static final char[] KIND_LETTERS = {'c', 'w', 'o', 'p', 'g'};
    private static final int[] KIND_FIRST = {0, 3, 12, 3, 6};
    private static final int[] KIND_LEAST = {0, 1, 1, 0, 0};
    private static final int[] KIND_MOST = {5, 9, 36, 9, 6};
    private static final char[] BOX_LETTERS = {'k', 'n', 'a', 'l'};
    private static final int[] BOX_FIRST = {0, 2, 0, 0};
    private static final int[] BOX_LEAST = {0, 1, 0, 0};
    private static final int[] BOX_MOST = {5, 9, 99, 1};
    private static final char[] LAW_LETTERS = {'a', 'o', 'n', 'y', 'k', 'm'};
    private static final char[] STEP_LETTERS = {'p', 't', 'l', 'm', 'c'};

    private static final int STEP_PUT = 0;
    private static final int STEP_TAKE = 1;
    private static final int STEP_LABEL = 2;
    private static final int STEP_MONTHS = 3;
    private static final int STEP_HOURS = 4;

    private final Tape tape = new Tape();
    private House house = new House();
    private House draft = new House();
    // The slot behind the last told one is the draft of the next, so there is one slot more.
    private final Law[] laws = new Law[TEXTS_MOST + 1];
    private int lawsTold;
    private int lawThatHolds = NONE;
    private final Plan[] plans = new Plan[TEXTS_MOST + 1];
    private int plansTold;
    private int labelHabit = 5;
    private final Pile now = new Pile();
    private final Pile apart = new Pile();
    private final Acts acts = new Acts();
    private final Meals meals = new Meals();
    private final Snapshot snapshot = new Snapshot();
    private final Looks looks = new Looks();
    private final Past past = new Past();
    private final int[] bestOfSet = new int[1 << BOXES_MOST];
    private final int[] firstOfSet = new int[1 << BOXES_MOST];
    private final int[] valuesByPlace = new int[BOXES_MOST];

    public FrostBox() {
        for (int i = 0; i <= TEXTS_MOST; i++) {
            laws[i] = new Law();
            plans[i] = new Plan();
        }
    }

    // ---- texts

    public int feed(int a, int b, int c, int d, int e) {
        int more = Tape.bytesIn(a) + Tape.bytesIn(b) + Tape.bytesIn(c) + Tape.bytesIn(d) + Tape.bytesIn(e);
        if (tape.length + more > TAPE_BYTES) {
            return NONE;
        }
        tape.append(a);
        tape.append(b);
        tape.append(c);
        tape.append(d);
        tape.append(e);
        return tape.length;
    }

    public boolean end(int n) {
        if (n < 0 || n > tape.length) {
            return false;
        }
        tape.length = n;
        return true;
    }

    public int fault(int sort) {
        if (sort < 0 || sort > 2) {
            return -2;
        }
        return readsAs(sort) ? NONE : tape.fault;
    }

    public int text(int sort) {
        if (sort < 0 || sort > 2 || !readsAs(sort)) {
            return NONE;
        }
        if (sort == 1) {
            return tellLaw();
        }
        return sort == 2 ? tellPlan() : tellHouse();
    }

    private boolean readsAs(int sort) {
        if (sort == 0) {
            return draft.readFrom(tape);
        }
        return sort == 1 ? laws[lawsTold].readFrom(tape) : plans[plansTold].readFrom(tape);
    }

    private int tellHouse() {
        House told = draft;
        draft = house;
        house = told;
        now.copyFrom(house.told);
        acts.size = 0;
        meals.total = 0;
        snapshot.kept = false;
        looks.size = 0;
        past.size = 0;
        tape.length = 0;
        return house.size;
    }

    private int tellLaw() {
        if (lawsTold >= TEXTS_MOST) {
            return NONE;
        }
        tape.length = 0;
        lawsTold++;
        return lawsTold - 1;
    }

    private int tellPlan() {
        if (plansTold >= TEXTS_MOST) {
            return NONE;
        }
        tape.length = 0;
        plansTold++;
        return plansTold - 1;
    }

    // ---- what is told

    private boolean hasHouse() {
        return house.size > 0;
    }

    private boolean isKind(int kind) {
        return hasHouse() && kind >= 0 && kind < house.size;
    }

    public int rule(int what) {
        return hasHouse() && what >= 0 && what < house.rules.length ? house.rules[what] : NONE;
    }

    public int kind(int kind, int what) {
        if (!isKind(kind) || what < 0 || what > GOES_WITH) {
            return NONE;
        }
        int told = house.kinds[kind][what];
        return what == GOES_WITH && told == GOES_WITH_NONE ? NONE : told;
    }

    public int box(int box, int what) throws NoSuchElementException {
        if (!now.hasPlace(box) || what < 0 || what > 6) {
            throw new NoSuchElementException();
        }
        int i = now.indexOf(box);
        switch (what) {
            case 0: return now.kinds[i];
            case 1: return now.portions[i];
            case 2: return now.ages[i];
            case 3: return now.hasLabel(i) ? 1 : 0;
            case 4: return valueOf(now, i);
            case 5: return weightOf(i);
            default: return i;
        }
    }

    public boolean law(int law) {
        if (law < NONE || law >= lawsTold) {
            return false;
        }
        lawThatHolds = law;
        return true;
    }

    public boolean habit(int v) {
        if (v < 0 || v > 9 || v == labelHabit) {
            return false;
        }
        labelHabit = v;
        return true;
    }

    // ---- what boxes are worth

    /** What one portion is worth, loss taken off, when it is so much older and later, with so many boxes below. */
    private int portionWorth(Pile pile, int i, int older, int later, int below) {
        int kind = pile.kinds[i];
        int age = Math.min(AGE_MOST, pile.ages[i] + older);
        int keeps = house.kinds[kind][KEEPS];
        int loss = age - keeps;
        if (lawThatHolds >= 0 && lawThatHolds < lawsTold) {
            loss = laws[lawThatHolds].worth(age, keeps, pile.portions[i], below, kind, pile.month + later);
        }
        loss = Math.max(0, Math.min(LOSS_MOST, loss));
        return Math.max(0, house.kinds[kind][WORTH] - loss);
    }

    private int valueThen(Pile pile, int i, int older, int later, int below) {
        return pile.portions[i] * portionWorth(pile, i, older, later, below);
    }

    private int valueOf(Pile pile, int i) {
        return pile.portions[i] * portionWorth(pile, i, 0, 0, i);
    }

    private int valueOfAll(int older, int later) {
        int sum = 0;
        for (int i = 0; i < now.size; i++) {
            sum += valueThen(now, i, older, later, i);
        }
        return sum;
    }

    private void fillValues() {
        for (int place = 0; place < now.size; place++) {
            valuesByPlace[place] = valueOf(now, now.indexOf(place));
        }
    }

    private int weightOf(int i) {
        return now.portions[i] * house.kinds[now.kinds[i]][WEIGHT];
    }

    // ---- by hand

    private boolean canPut(Pile pile, int kind, int portions) {
        return isKind(kind) && portions >= 1 && portions <= PORTIONS_MOST && pile.size < BOXES_MOST
                && pile.portionsInAll() + portions <= house.rules[ROOM];
    }

    /** How many hours are borne with so many portions. */
    private int borneHours(int portions) {
        int room = house.rules[ROOM];
        return room > 0 ? house.rules[HOURS] * portions / room : 0;
    }

    private int hoursTooMany(Pile pile, int n) {
        return Math.max(0, n - borneHours(pile.portionsInAll()));
    }

    private int eatBox(int i) {
        int value = valueOf(now, i);
        meals.add(now.kinds[i], now.portions[i], now.ages[i], value);
        now.remove(i);
        return value;
    }

    private void saveAct() {
        acts.save(now, meals.total);
    }

    public int put(int kind, int portions, boolean label) {
        if (!canPut(now, kind, portions)) {
            return NONE;
        }
        saveAct();
        now.push(kind, portions, 0, label ? now.month : NONE);
        return now.size;
    }

    public int take(int box) {
        if (!now.hasPlace(box)) {
            return NONE;
        }
        saveAct();
        return eatBox(now.indexOf(box));
    }

    public boolean label(int box) {
        if (!now.hasPlace(box) || now.hasLabel(now.indexOf(box))) {
            return false;
        }
        saveAct();
        now.putLabel(now.indexOf(box));
        return true;
    }

    private boolean canPassMonths(int n) {
        return hasHouse() && n >= 1 && n <= MONTHS_AT_ONCE && now.month + n <= MONTH_MOST;
    }

    private void passMonthsAsActs(int n) {
        for (int i = 0; i < n; i++) {
            saveAct();
            now.passMonth(house.rules[HOLDS]);
        }
    }

    public int months(int n) {
        if (!canPassMonths(n)) {
            return NONE;
        }
        passMonthsAsActs(n);
        return now.month;
    }

    private boolean isHours(int n) {
        return hasHouse() && n >= 1 && n <= HOURS_MOST;
    }

    public int off(int n) {
        if (!isHours(n)) {
            return NONE;
        }
        saveAct();
        int more = hoursTooMany(now, n);
        now.growOlder(more);
        return more;
    }

    // ---- years by draws

    public int years(int n, long seed) {
        if (!canPassMonths(n)) {
            return NONE;
        }
        long x = seed;
        for (int i = 0; i < n; i++) {
            x = liveMonth(x);
        }
        return now.month;
    }

    private long liveMonth(long seed) {
        saveAct();
        long x = nextDraw(seed);
        int kind = drawnOf(x, house.size);
        x = nextDraw(x);
        int portions = drawnOf(x, PORTIONS_MOST) + 1;
        x = nextDraw(x);
        boolean labelled = drawnOf(x, 10) < labelHabit;
        if (canPut(now, kind, portions)) {
            now.push(kind, portions, 0, labelled ? now.month : NONE);
        }
        x = nextDraw(x);
        boolean fromTop = drawnOf(x, 2) == 0;
        if (now.size > 0) {
            eatBox(fromTop ? now.size - 1 : 0);
        }
        now.passMonth(house.rules[HOLDS]);
        return x;
    }

    private static long nextDraw(long x) {
        return x * 6364136223846793005L + 1442695040888963407L;
    }

    private static int drawnOf(long x, int j) {
        return j > 0 ? (int) ((x >>> 33) % j) : 0;
    }

    // ---- acts undone, the log, images

    public int undo() {
        if (acts.size == 0) {
            return NONE;
        }
        meals.total = acts.giveBack(now);
        return acts.size;
    }

    public int log(int i, int what) {
        if (i < 0 || i >= meals.length() || what < 0 || what > 3) {
            return NONE;
        }
        return meals.told(i, what);
    }

    public int image() {
        if (!hasHouse()) {
            return NONE;
        }
        snapshot.keepOf(now, meals);
        return now.month;
    }

    public int back() {
        if (!hasHouse() || !snapshot.kept) {
            return NONE;
        }
        snapshot.giveBack(now, meals);
        acts.size = 0;
        return now.month;
    }

    // ---- plans

    private boolean isPlan(int plan) {
        return plan >= 0 && plan < plansTold;
    }

    public int step(int plan, int i, int what) {
        if (!isPlan(plan) || i < 0 || i >= plans[plan].size || what < 0 || what > 3) {
            return HIDDEN;
        }
        return plans[plan].told(i, what);
    }

    public int run(int plan, int what) {
        if (!isPlan(plan) || what < 0 || what > 1 || !hasHouse()) {
            return HIDDEN;
        }
        Plan steps = plans[plan];
        apart.copyFrom(now);
        int eaten = 0;
        int done = 0;
        while (done < steps.size && canBe(apart, steps, done)) {
            if (steps.sorts[done] == STEP_TAKE) {
                eaten += valueOf(apart, apart.indexOf(steps.firsts[done]));
            }
            goApart(steps, done);
            done++;
        }
        if (what == 1) {
            return eaten;
        }
        return done < steps.size ? done : NONE;
    }

    private boolean canBe(Pile pile, Plan steps, int i) {
        int first = steps.firsts[i];
        switch (steps.sorts[i]) {
            case STEP_PUT: return canPut(pile, first, steps.seconds[i]);
            case STEP_TAKE: return pile.hasPlace(first);
            case STEP_LABEL: return pile.hasPlace(first) && !pile.hasLabel(pile.indexOf(first));
            case STEP_MONTHS: return first >= 1 && pile.month + first <= MONTH_MOST;
            default: return first >= 1;
        }
    }

    /** Takes a step that can be, on the pile apart. */
    private void goApart(Plan steps, int i) {
        int first = steps.firsts[i];
        switch (steps.sorts[i]) {
            case STEP_PUT:
                apart.push(first, steps.seconds[i], 0, steps.thirds[i] == 1 ? apart.month : NONE);
                break;
            case STEP_TAKE:
                apart.remove(apart.indexOf(first));
                break;
            case STEP_LABEL:
                apart.putLabel(apart.indexOf(first));
                break;
            case STEP_MONTHS:
                for (int month = 0; month < first; month++) {
                    apart.passMonth(house.rules[HOLDS]);
                }
                break;
            default:
                apart.growOlder(hoursTooMany(apart, first));
        }
    }

    public int perform(int plan) {
        if (!isPlan(plan) || !hasHouse()) {
            return NONE;
        }
        Plan steps = plans[plan];
        int done = 0;
        while (done < steps.size && canBe(now, steps, done)) {
            int first = steps.firsts[done];
            switch (steps.sorts[done]) {
                case STEP_PUT:
                    put(first, steps.seconds[done], steps.thirds[done] == 1);
                    break;
                case STEP_TAKE:
                    take(first);
                    break;
                case STEP_LABEL:
                    label(first);
                    break;
                case STEP_MONTHS:
                    passMonthsAsActs(first);
                    break;
                default:
                    off(first);
            }
            done++;
        }
        return done;
    }

    // ---- dinner

    public int dinner(int n, int what) {
        if (!hasHouse() || n < 1 || n > DINNER_MOST || what < 0 || what > 1) {
            return NONE;
        }
        fillValues();
        int bestSet = NONE;
        int bestRate = NONE;
        int bestPortions = 0;
        for (int set = 1; set < 1 << now.size; set++) {
            int portions = portionsOf(set);
            if (portions < n || !goesTogether(set)) {
                continue;
            }
            int rate = valueOfSet(set) * 100 / portions;
            if (rate > bestRate || rate == bestRate && portions < bestPortions) {
                bestSet = set;
                bestRate = rate;
                bestPortions = portions;
            }
        }
        return what == 0 ? bestSet : bestRate;
    }

    private int portionsOf(int set) {
        int sum = 0;
        for (int place = 0; place < now.size; place++) {
            if ((set >> place & 1) == 1) {
                sum += now.portions[now.indexOf(place)];
            }
        }
        return sum;
    }

    private int valueOfSet(int set) {
        int sum = 0;
        for (int place = 0; place < now.size; place++) {
            if ((set >> place & 1) == 1) {
                sum += valuesByPlace[place];
            }
        }
        return sum;
    }

    private boolean goesTogether(int set) {
        int kinds = 0;
        for (int place = 0; place < now.size; place++) {
            if ((set >> place & 1) == 1) {
                kinds |= 1 << now.kinds[now.indexOf(place)];
            }
        }
        for (int kind = 0; kind < house.size; kind++) {
            if ((kinds >> kind & 1) == 1 && (kinds & ~house.kindsWith(kind)) != 0) {
                return false;
            }
        }
        return true;
    }

    public int goes(int kind) {
        return isKind(kind) ? house.kindsWith(kind) : NONE;
    }

    // ---- eating month by month

    public int eat(int what) {
        if (!hasHouse() || what < 0 || what > 3) {
            return NONE;
        }
        if (what >= 2) {
            return eatenInTurn(what == 3);
        }
        fillBest();
        return what == 0 ? bestOrder() : bestOfSet[(1 << now.size) - 1];
    }

    /** For each set of boxes still there (bits by index) the most that can be eaten of them, and by which first. */
    private void fillBest() {
        bestOfSet[0] = 0;
        for (int left = 1; left < 1 << now.size; left++) {
            bestOfSet[left] = NONE;
            // From place 0 on, and only by more: of several orders that of the least digits stays.
            for (int place = 0; place < now.size; place++) {
                int i = now.indexOf(place);
                int eaten = (left >> i & 1) == 1 ? bestWithFirst(left, i) : NONE;
                if (eaten > bestOfSet[left]) {
                    bestOfSet[left] = eaten;
                    firstOfSet[left] = place;
                }
            }
        }
    }

    private int bestWithFirst(int left, int i) {
        int gone = now.size - Integer.bitCount(left);
        int below = Integer.bitCount(left & ((1 << i) - 1));
        return valueThen(now, i, gone, gone, below) + bestOfSet[left & ~(1 << i)];
    }

    private int bestOrder() {
        int left = (1 << now.size) - 1;
        int digits = 0;
        for (int turn = 0; turn < now.size; turn++) {
            int place = firstOfSet[left];
            digits = digits * 10 + place;
            left &= ~(1 << now.indexOf(place));
        }
        return digits;
    }

    private int eatenInTurn(boolean fromTop) {
        int sum = 0;
        for (int gone = 0; gone < now.size; gone++) {
            int i = fromTop ? now.size - 1 - gone : gone;
            sum += valueThen(now, i, gone, gone, fromTop ? i : 0);
        }
        return sum;
    }

    // ---- hours without current

    public int costs(int n) {
        if (!isHours(n)) {
            return NONE;
        }
        return valueOfAll(0, 0) - valueOfAll(hoursTooMany(now, n), 0);
    }

    public int full(int n) {
        if (!isHours(n)) {
            return NONE;
        }
        for (int portions = 0; portions <= house.rules[ROOM]; portions++) {
            if (borneHours(portions) >= n) {
                return portions;
            }
        }
        return NONE;
    }

    public int keep(int n, int v) {
        if (!isHours(n) || v < 0 || v > 9) {
            return NONE;
        }
        int more = hoursTooMany(now, n);
        int bits = 0;
        for (int place = 0; place < now.size; place++) {
            int i = now.indexOf(place);
            if (portionWorth(now, i, more, 0, i) >= v) {
                bits |= 1 << place;
            }
        }
        return bits;
    }

    // ---- what one sees

    public int spans(int kind, int what) {
        if (!isKind(kind) || what < 0 || what > 1) {
            return NONE;
        }
        int sum = 0;
        for (int i = 0; i < now.size; i++) {
            if (now.hasLabel(i)) {
                sum += now.kinds[i] == kind ? now.portions[i] : 0;
            } else if (what == 1 && house.kinds[now.kinds[i]][COLOUR] == house.kinds[kind][COLOUR]) {
                sum += Math.max(0, house.portionsThatWeigh(kind, weightOf(i)));
            }
        }
        return sum;
    }

    public int nameless() {
        if (!hasHouse()) {
            return NONE;
        }
        int bits = 0;
        for (int place = 0; place < now.size; place++) {
            if (!now.hasLabel(now.indexOf(place))) {
                bits |= 1 << place;
            }
        }
        return bits;
    }

    public int doubles(int i) {
        if (!hasHouse() || i < NONE) {
            return NONE;
        }
        int pairs = 0;
        for (int upper = 0; upper < now.size; upper++) {
            for (int lower = upper + 1; lower < now.size; lower++) {
                if (!looksAlike(now.indexOf(upper), now.indexOf(lower))) {
                    continue;
                }
                if (pairs == i) {
                    return 10 * upper + lower;
                }
                pairs++;
            }
        }
        return i == NONE ? pairs : NONE;
    }

    private boolean looksAlike(int i, int j) {
        return !now.hasLabel(i) && !now.hasLabel(j) && weightOf(i) == weightOf(j)
                && house.kinds[now.kinds[i]][COLOUR] == house.kinds[now.kinds[j]][COLOUR];
    }

    public int make(int kind, int w) {
        if (!isKind(kind) || w < 1 || w > 81) {
            return NONE;
        }
        return house.portionsThatWeigh(kind, w);
    }

    // ---- looks at a nameless thing

    public int peek(int sort, int seemed) {
        if (!hasHouse() || sort < 0 || sort > 1 || looks.size >= LOOKS_MOST
                || seemed < KIND_LEAST[sort] || seemed > KIND_MOST[sort]) {
            return NONE;
        }
        looks.add(sort, seemed);
        return looks.size;
    }

    public int what(int what) {
        if (!hasHouse() || what < 0 || what > 2) {
            return NONE;
        }
        if (what == 2) {
            return looks.greatestAlike(house, COLOUR) <= looks.greatestAlike(house, WEIGHT) ? 0 : 1;
        }
        int likeliest = looks.likeliest(house);
        return what == 0 ? likeliest : looks.sureOf(house, likeliest);
    }

    // ---- when what was put in

    public int found(int i, int kind, boolean is) {
        if (!isKind(kind) || i < 0 || i >= ROW || past.size >= FINDS_MOST) {
            return NONE;
        }
        past.add(i, kind, is);
        return past.size;
    }

    public int history(int digits, int i) {
        if (!hasHouse() || i < NONE || !past.startRows(digits, house.size)) {
            return NONE;
        }
        int rows = 0;
        boolean more = true;
        for (int turn = 0; turn < ROWS_MOST && more; turn++) {
            if (past.fitsAll()) {
                if (rows == i) {
                    return past.rowAsDigits();
                }
                rows++;
            }
            more = past.nextRow();
        }
        return i == NONE ? rows : NONE;
    }

    public int share(int digits) {
        if (!hasHouse() || !past.startRows(digits, house.size)) {
            return NONE;
        }
        int bits = NONE;
        boolean more = true;
        for (int turn = 0; turn < ROWS_MOST && more; turn++) {
            if (past.fitsAll()) {
                bits = bits == NONE ? past.keepRow() : bits & past.likeKept();
            }
            more = past.nextRow();
        }
        return bits;
    }

    // ---- dinners by lot, who labels

    public int lot(int what) {
        if (!hasHouse() || what < 0 || what > 1) {
            return NONE;
        }
        fillValues();
        int sum = 0;
        int threes = 0;
        for (int i = 0; i < now.size; i++) {
            for (int j = i + 1; j < now.size; j++) {
                for (int k = j + 1; k < now.size; k++) {
                    sum += Math.max(valuesByPlace[i], Math.max(valuesByPlace[j], valuesByPlace[k]));
                    threes++;
                }
            }
        }
        return what == 0 ? sum : threes;
    }

    public int labels(int x, int y) {
        if (!hasHouse() || x < 0 || x > 1 || y < 0 || y > 1) {
            return HIDDEN;
        }
        return labellerHas(x, y);
    }

    private int labellerHas(int own, int other) {
        int all = own + other > 0 ? 2 * Integer.bitCount(nameless()) : 0;
        return own == 1 ? all - 3 : all;
    }

    public int rests(int i) {
        if (!hasHouse() || i < NONE) {
            return NONE;
        }
        int resting = 0;
        for (int pair = 0; pair < 4; pair++) {
            int x = pair / 2;
            int y = pair % 2;
            if (labellerHas(1 - x, y) > labellerHas(x, y) || labellerHas(1 - y, x) > labellerHas(y, x)) {
                continue;
            }
            if (resting == i) {
                return 10 * x + y;
            }
            resting++;
        }
        return i == NONE ? resting : NONE;
    }

    // ---- more of the boxes

    public int most(int what) {
        if (!hasHouse() || what < 0 || what > 1) {
            return NONE;
        }
        int best = NONE;
        int bestPlace = NONE;
        for (int place = 0; place < now.size; place++) {
            int i = now.indexOf(place);
            int much = what == 0 ? now.ages[i] : valueOf(now, i);
            if (much > best) {
                best = much;
                bestPlace = place;
            }
        }
        return bestPlace;
    }

    public int spoilt() {
        if (!hasHouse()) {
            return NONE;
        }
        int bits = 0;
        for (int place = 0; place < now.size; place++) {
            if (valueOf(now, now.indexOf(place)) == 0) {
                bits |= 1 << place;
            }
        }
        return bits;
    }

    public int buried(int box) {
        if (!now.hasPlace(box)) {
            return NONE;
        }
        int sum = 0;
        for (int i = now.indexOf(box) + 1; i < now.size; i++) {
            sum += now.portions[i];
        }
        return sum;
    }

    public int soonest(int box) {
        if (!now.hasPlace(box)) {
            return NONE;
        }
        int i = now.indexOf(box);
        for (int later = 0; later <= 99; later++) {
            if (valueThen(now, i, later, later, i) == 0) {
                return later;
            }
        }
        return NONE;
    }

    public int monthly(int n) {
        if (!hasHouse() || n < 0 || n > MONTHS_AT_ONCE) {
            return NONE;
        }
        return valueOfAll(n, n);
    }

    public int count(int what) {
        switch (what) {
            case 0: return hasHouse() ? house.size : 0;
            case 1: return now.size;
            case 2: return lawsTold;
            case 3: return plansTold;
            case 4: return tape.length;
            case 5: return lawThatHolds;
            case 6: return now.month;
            case 7: return now.portionsInAll();
            case 8: return valueOfAll(0, 0);
            case 9: return labelHabit;
            case 10: return looks.size;
            case 11: return past.size;
            case 12: return meals.valueInAll();
            case 13: return meals.length();
            case 14: return acts.size;
            default: return HIDDEN;
        }
    }

    private static int placeAmong(char[] letters, int sign) {
        for (int i = 0; i < letters.length; i++) {
            if (letters[i] == sign) {
                return i;
            }
        }
        return NONE;
    }

    /** The bytes that were fed, and where in them a text is being read. */
    private static final class Tape {
        final int[] bytes = new int[TAPE_BYTES];
        int length;
        int at;
        int fault = NONE;

        static int bytesIn(int word) {
            int sum = 0;
            for (int shift = 24; shift >= 0; shift -= 8) {
                sum += (word >>> shift & 255) != 0 ? 1 : 0;
            }
            return sum;
        }

        void append(int word) {
            for (int shift = 24; shift >= 0; shift -= 8) {
                int sign = word >>> shift & 255;
                if (sign != 0 && length < bytes.length) {
                    bytes[length] = sign;
                    length++;
                }
            }
        }

        void rewind() {
            at = 0;
            fault = NONE;
        }

        /** The next sign that is no blank (NONE at the end); it stays ahead. */
        int ahead() {
            while (at < length && bytes[at] == ' ') {
                at++;
            }
            return at < length ? bytes[at] : NONE;
        }

        void pass() {
            at++;
        }

        boolean refuse() {
            fault = at;
            return false;
        }

        boolean refuseLast() {
            fault = at - 1;
            return false;
        }

        boolean demand(int sign) {
            if (ahead() != sign) {
                return refuse();
            }
            pass();
            return true;
        }

        boolean digitIsHere() {
            return at < length && bytes[at] >= '0' && bytes[at] <= '9';
        }

        /** The next digit, blanks ahead of it or none; NONE where there is a fault. */
        int digit() {
            ahead();
            if (!digitIsHere()) {
                fault = at;
                return NONE;
            }
            at++;
            return bytes[at - 1] - '0';
        }

        /** A number of at most so many digits; NONE where there is a fault. */
        int number(int digitsMost) {
            ahead();
            int value = 0;
            int digits = 0;
            while (digits < digitsMost && digitIsHere()) {
                value = value * 10 + bytes[at] - '0';
                digits++;
                at++;
            }
            if (digits == 0 || digitIsHere()) {
                fault = at;
                return NONE;
            }
            return value;
        }
    }

    /** Rules, kinds, and the boxes as they were told. */
    private static final class House {
        final int[] rules = new int[RULE_FIRST.length];
        final int[][] kinds = new int[KINDS_MOST][KIND_FIRST.length];
        final int[] boxItems = new int[BOX_FIRST.length];
        final Pile told = new Pile();
        int size;
        boolean rulesTold;

        boolean readFrom(Tape tape) {
            size = 0;
            rulesTold = false;
            System.arraycopy(RULE_FIRST, 0, rules, 0, RULE_FIRST.length);
            told.clear();
            tape.rewind();
            for (int clause = 0; clause <= TAPE_BYTES; clause++) {
                if (!readClause(tape)) {
                    return false;
                }
                if (tape.ahead() == NONE) {
                    return isWhole() || tape.refuse();
                }
                if (!tape.demand(';')) {
                    return false;
                }
            }
            return tape.refuse();
        }

        private boolean readClause(Tape tape) {
            int sign = tape.ahead();
            if (sign == 's' && !rulesTold) {
                tape.pass();
                rulesTold = true;
                return readItems(tape, RULE_LETTERS, RULE_LEAST, RULE_MOST, rules);
            }
            if (sign == 'k' && size < KINDS_MOST) {
                tape.pass();
                size++;
                System.arraycopy(KIND_FIRST, 0, kinds[size - 1], 0, KIND_FIRST.length);
                return readItems(tape, KIND_LETTERS, KIND_LEAST, KIND_MOST, kinds[size - 1]);
            }
            if (sign != 'b' || told.size >= BOXES_MOST) {
                return tape.refuse();
            }
            tape.pass();
            System.arraycopy(BOX_FIRST, 0, boxItems, 0, BOX_FIRST.length);
            if (!readItems(tape, BOX_LETTERS, BOX_LEAST, BOX_MOST, boxItems)) {
                return false;
            }
            told.push(boxItems[0], boxItems[1], boxItems[2], boxItems[3] == 1 ? 0 : NONE);
            return true;
        }

        private boolean readItems(Tape tape, char[] letters, int[] least, int[] most, int[] values) {
            int seen = 0;
            for (int turn = 0; turn <= letters.length; turn++) {
                int item = placeAmong(letters, tape.ahead());
                if (item == NONE) {
                    return true;
                }
                if ((seen >> item & 1) == 1) {
                    return tape.refuse();
                }
                seen |= 1 << item;
                tape.pass();
                int value = tape.number(2);
                if (value == NONE) {
                    return false;
                }
                if (value < least[item] || value > most[item]) {
                    return tape.refuseLast();
                }
                values[item] = value;
            }
            return true;
        }

        /** What only the end of the text can show. */
        private boolean isWhole() {
            boolean whole = size > 0 && told.portionsInAll() <= rules[ROOM];
            for (int kind = 0; kind < size; kind++) {
                int other = kinds[kind][GOES_WITH];
                whole = whole && (other == GOES_WITH_NONE || other < size);
            }
            for (int i = 0; i < told.size; i++) {
                whole = whole && told.kinds[i] < size;
            }
            return whole;
        }

        int kindsWith(int kind) {
            int bits = 1 << kind;
            for (int other = 0; other < size; other++) {
                if (kinds[other][GOES_WITH] == kind || kinds[kind][GOES_WITH] == other) {
                    bits |= 1 << other;
                }
            }
            return bits;
        }

        int portionsThatWeigh(int kind, int weight) {
            int one = kinds[kind][WEIGHT];
            if (one <= 0 || weight % one != 0) {
                return NONE;
            }
            int portions = weight / one;
            return portions >= 1 && portions <= PORTIONS_MOST ? portions : NONE;
        }
    }

    /** A law as signs in the order in which a stack reckons them: what is reckoned with first, its sign behind. */
    private static final class Law {
        // A sign below LETTER is a number, one below SIGN a letter, all others are SIGN and the byte itself.
        private static final int LETTER = 10000;
        private static final int SIGN = 20000;
        final int[] signs = new int[TAPE_BYTES];
        final int[] letters = new int[LAW_LETTERS.length];
        final int[] stack = new int[64];
        int size;

        boolean readFrom(Tape tape) {
            size = 0;
            tape.rewind();
            for (int clause = 0; clause <= TAPE_BYTES; clause++) {
                if (!readClause(tape)) {
                    return false;
                }
                add(SIGN + ';');
                if (tape.ahead() == NONE) {
                    return true;
                }
                if (!tape.demand(';')) {
                    return false;
                }
            }
            return tape.refuse();
        }

        private void add(int sign) {
            if (size < signs.length) {
                signs[size] = sign;
                size++;
            }
        }

        private boolean readClause(Tape tape) {
            if (!tape.demand('y') || !tape.demand(':')) {
                return false;
            }
            int sign = tape.ahead();
            if (sign != '!' && sign != '(') {
                int start = tape.at;
                int sizeAtStart = size;
                if (!readSum(tape, 0)) {
                    return false;
                }
                if (!isComparison(tape.ahead())) {
                    return true;
                }
                // Only the sign behind the sum tells that a condition starts with it: it is read again as such.
                tape.at = start;
                size = sizeAtStart;
            }
            if (!readCondition(tape, 0) || !tape.demand('?')) {
                return false;
            }
            add(SIGN + '?');
            return readSum(tape, 0);
        }

        private boolean readCondition(Tape tape, int depth) {
            if (!readTruth(tape, depth)) {
                return false;
            }
            for (int turn = 0; turn < TAPE_BYTES && tape.ahead() == '|'; turn++) {
                tape.pass();
                if (!readTruth(tape, depth)) {
                    return false;
                }
                add(SIGN + '|');
            }
            return true;
        }

        private boolean readTruth(Tape tape, int depth) {
            if (!readUnit(tape, depth)) {
                return false;
            }
            for (int turn = 0; turn < TAPE_BYTES && tape.ahead() == '&'; turn++) {
                tape.pass();
                if (!readUnit(tape, depth)) {
                    return false;
                }
                add(SIGN + '&');
            }
            return true;
        }

        private boolean readUnit(Tape tape, int depth) {
            int sign = tape.ahead();
            if (sign == '!' || sign == '(') {
                return readNested(tape, depth, sign);
            }
            if (!readSum(tape, depth)) {
                return false;
            }
            sign = tape.ahead();
            if (!isComparison(sign)) {
                return tape.refuse();
            }
            tape.pass();
            if (!readSum(tape, depth)) {
                return false;
            }
            add(SIGN + sign);
            return true;
        }

        private boolean readNested(Tape tape, int depth, int sign) {
            if (depth >= NESTED_MOST) {
                return tape.refuse();
            }
            tape.pass();
            if (sign == '(') {
                return readCondition(tape, depth + 1) && tape.demand(')');
            }
            if (!readUnit(tape, depth + 1)) {
                return false;
            }
            add(SIGN + '!');
            return true;
        }

        private static boolean isComparison(int sign) {
            return sign == '=' || sign == '<' || sign == '>';
        }

        private boolean readSum(Tape tape, int depth) {
            if (!readTerm(tape, depth)) {
                return false;
            }
            int sign = tape.ahead();
            for (int turn = 0; turn < TAPE_BYTES && (sign == '+' || sign == '-'); turn++) {
                tape.pass();
                if (!readTerm(tape, depth)) {
                    return false;
                }
                add(SIGN + sign);
                sign = tape.ahead();
            }
            return true;
        }

        private boolean readTerm(Tape tape, int depth) {
            if (!readAtom(tape, depth)) {
                return false;
            }
            int sign = tape.ahead();
            for (int turn = 0; turn < TAPE_BYTES && (sign == '*' || sign == '/'); turn++) {
                tape.pass();
                if (!readAtom(tape, depth)) {
                    return false;
                }
                add(SIGN + sign);
                sign = tape.ahead();
            }
            return true;
        }

        private boolean readAtom(Tape tape, int depth) {
            int sign = tape.ahead();
            if (sign == '[') {
                if (depth >= NESTED_MOST) {
                    return tape.refuse();
                }
                tape.pass();
                return readSum(tape, depth + 1) && tape.demand(']');
            }
            int letter = placeAmong(LAW_LETTERS, sign);
            if (letter != NONE) {
                tape.pass();
                add(LETTER + letter);
                return true;
            }
            int number = tape.number(4);
            if (number == NONE) {
                return false;
            }
            add(number);
            return true;
        }

        int worth(int age, int keeps, int portions, int below, int kind, int month) {
            letters[0] = age;
            letters[1] = keeps;
            letters[2] = portions;
            letters[3] = below;
            letters[4] = kind;
            letters[5] = month;
            int top = 0;
            boolean passing = false;
            for (int i = 0; i < size; i++) {
                int sign = signs[i];
                if (passing) {
                    passing = sign != SIGN + ';';
                } else if (sign < SIGN) {
                    if (top >= stack.length) {
                        return 0;
                    }
                    stack[top] = sign < LETTER ? sign : letters[sign - LETTER];
                    top++;
                } else if (top < 1 || sign == SIGN + ';') {
                    return top < 1 ? 0 : stack[top - 1];
                } else if (sign == SIGN + '!') {
                    stack[top - 1] = 1 - stack[top - 1];
                } else {
                    top--;
                    if (sign == SIGN + '?') {
                        passing = stack[top] == 0;
                    } else if (top >= 1) {
                        stack[top - 1] = joined(sign - SIGN, stack[top - 1], stack[top]);
                    }
                }
            }
            return 0;
        }

        private static int joined(int sign, int left, int right) {
            long value;
            switch (sign) {
                case '+': value = (long) left + right; break;
                case '-': value = (long) left - right; break;
                case '*': value = (long) left * right; break;
                case '/': value = right == 0 ? 0 : left / right; break;
                case '=': value = left == right ? 1 : 0; break;
                case '<': value = left < right ? 1 : 0; break;
                case '>': value = left > right ? 1 : 0; break;
                case '&': value = left & right; break;
                default: value = left | right;
            }
            return (int) Math.max(-NUMBER_BOUND, Math.min(NUMBER_BOUND, value));
        }
    }

    /** Steps, each a letter (by its place among STEP_LETTERS) and up to three numbers. */
    private static final class Plan {
        final int[] sorts = new int[STEPS_MOST];
        final int[] firsts = new int[STEPS_MOST];
        final int[] seconds = new int[STEPS_MOST];
        final int[] thirds = new int[STEPS_MOST];
        int size;

        boolean readFrom(Tape tape) {
            size = 0;
            tape.rewind();
            for (int i = 0; i < STEPS_MOST; i++) {
                if (!readStep(tape, i)) {
                    return false;
                }
                size++;
                if (tape.ahead() == NONE) {
                    return true;
                }
                if (size == STEPS_MOST || !tape.demand(';')) {
                    return tape.refuse();
                }
            }
            return tape.refuse();
        }

        private boolean readStep(Tape tape, int i) {
            sorts[i] = placeAmong(STEP_LETTERS, tape.ahead());
            if (sorts[i] == NONE) {
                return tape.refuse();
            }
            tape.pass();
            firsts[i] = tape.digit();
            seconds[i] = NONE;
            thirds[i] = NONE;
            if (firsts[i] == NONE) {
                return false;
            }
            if (sorts[i] == STEP_HOURS) {
                return readSecondOfHours(tape, i);
            }
            return sorts[i] != STEP_PUT || readRestOfPut(tape, i);
        }

        private boolean readSecondOfHours(Tape tape, int i) {
            int second = tape.digit();
            firsts[i] = firsts[i] * 10 + second;
            return second != NONE;
        }

        private boolean readRestOfPut(Tape tape, int i) {
            seconds[i] = tape.digit();
            if (seconds[i] == NONE) {
                return false;
            }
            thirds[i] = tape.digit();
            if (thirds[i] == NONE) {
                return false;
            }
            return thirds[i] <= 1 || tape.refuseLast();
        }

        int told(int i, int what) {
            if (what == 0) {
                return sorts[i];
            }
            if (what == 1) {
                return firsts[i];
            }
            return what == 2 ? seconds[i] : thirds[i];
        }
    }

    /** Boxes from the lowest (index 0) to the top one (place 0), and the month. */
    private static final class Pile {
        final int[] kinds = new int[BOXES_MOST];
        final int[] portions = new int[BOXES_MOST];
        final int[] ages = new int[BOXES_MOST];
        // The month in which the label was put on; NONE without a label.
        final int[] labelled = new int[BOXES_MOST];
        int size;
        int month;

        void clear() {
            size = 0;
            month = 0;
        }

        void copyFrom(Pile other) {
            System.arraycopy(other.kinds, 0, kinds, 0, BOXES_MOST);
            System.arraycopy(other.portions, 0, portions, 0, BOXES_MOST);
            System.arraycopy(other.ages, 0, ages, 0, BOXES_MOST);
            System.arraycopy(other.labelled, 0, labelled, 0, BOXES_MOST);
            size = other.size;
            month = other.month;
        }

        boolean hasPlace(int place) {
            return place >= 0 && place < size;
        }

        int indexOf(int place) {
            return size - 1 - place;
        }

        boolean hasLabel(int i) {
            return labelled[i] != NONE;
        }

        void putLabel(int i) {
            labelled[i] = month;
        }

        int portionsInAll() {
            int sum = 0;
            for (int i = 0; i < size; i++) {
                sum += portions[i];
            }
            return sum;
        }

        void push(int kind, int portion, int age, int labelMonth) {
            if (size < BOXES_MOST) {
                kinds[size] = kind;
                portions[size] = portion;
                ages[size] = age;
                labelled[size] = labelMonth;
                size++;
            }
        }

        void remove(int index) {
            for (int i = index; i < size - 1; i++) {
                kinds[i] = kinds[i + 1];
                portions[i] = portions[i + 1];
                ages[i] = ages[i + 1];
                labelled[i] = labelled[i + 1];
            }
            size--;
        }

        void growOlder(int more) {
            for (int i = 0; i < size; i++) {
                ages[i] = Math.min(AGE_MOST, ages[i] + more);
            }
        }

        void passMonth(int holds) {
            growOlder(1);
            month++;
            for (int i = 0; i < size; i++) {
                if (hasLabel(i) && month - labelled[i] >= holds) {
                    labelled[i] = NONE;
                }
            }
        }
    }

    /** What was eaten, in a ring: it keeps more than is told, for what an undone act brings back. */
    private static final class Meals {
        private static final int RING = MEALS_MOST + ACTS_MOST;
        final int[][] ring = new int[RING][4];
        int total;

        void add(int kind, int portions, int age, int value) {
            int[] meal = ring[total % RING];
            meal[0] = kind;
            meal[1] = portions;
            meal[2] = age;
            meal[3] = value;
            total++;
        }

        int length() {
            return Math.min(MEALS_MOST, total);
        }

        int told(int i, int what) {
            return ring[(total - 1 - i) % RING][what];
        }

        int valueInAll() {
            int sum = 0;
            for (int i = 0; i < length(); i++) {
                sum += told(i, 3);
            }
            return sum;
        }

        void copyFrom(Meals other) {
            for (int i = 0; i < RING; i++) {
                System.arraycopy(other.ring[i], 0, ring[i], 0, 4);
            }
            total = other.total;
        }
    }

    /** How it was ahead of each of the latest acts, in a ring. */
    private static final class Acts {
        final Pile[] before = new Pile[ACTS_MOST];
        final int[] mealsBefore = new int[ACTS_MOST];
        int next;
        int size;

        Acts() {
            for (int i = 0; i < ACTS_MOST; i++) {
                before[i] = new Pile();
            }
        }

        void save(Pile pile, int mealsTotal) {
            before[next].copyFrom(pile);
            mealsBefore[next] = mealsTotal;
            next = (next + 1) % ACTS_MOST;
            size = Math.min(ACTS_MOST, size + 1);
        }

        /** Brings the pile back as it was; answers how many meals there were then. */
        int giveBack(Pile pile) {
            next = (next + ACTS_MOST - 1) % ACTS_MOST;
            size--;
            pile.copyFrom(before[next]);
            return mealsBefore[next];
        }
    }

    /** The image of boxes, month and log. */
    private static final class Snapshot {
        final Pile pile = new Pile();
        final Meals meals = new Meals();
        boolean kept;

        void keepOf(Pile pileNow, Meals mealsNow) {
            pile.copyFrom(pileNow);
            meals.copyFrom(mealsNow);
            kept = true;
        }

        void giveBack(Pile pileNow, Meals mealsNow) {
            pileNow.copyFrom(pile);
            mealsNow.copyFrom(meals);
        }
    }

    /** Looks at a nameless thing; a sort is also the place of what it shows among what a kind is. */
    private static final class Looks {
        final int[] sorts = new int[LOOKS_MOST];
        final int[] seemed = new int[LOOKS_MOST];
        int size;

        void add(int sort, int seen) {
            if (size < LOOKS_MOST) {
                sorts[size] = sort;
                seemed[size] = seen;
                size++;
            }
        }

        long held(House house, int kind) {
            long product = 1;
            for (int i = 0; i < size; i++) {
                boolean so = house.kinds[kind][sorts[i]] == seemed[i];
                product *= so ? 10 - house.rules[WRONG] : house.rules[WRONG];
            }
            return product;
        }

        int likeliest(House house) {
            int best = 0;
            for (int kind = 1; kind < house.size; kind++) {
                if (held(house, kind) > held(house, best)) {
                    best = kind;
                }
            }
            return best;
        }

        int sureOf(House house, int kind) {
            long all = 0;
            for (int other = 0; other < house.size; other++) {
                all += held(house, other);
            }
            return all > 0 ? (int) (held(house, kind) * 1000 / all) : 0;
        }

        long greatestAlike(House house, int sort) {
            long greatest = 0;
            for (int kind = 0; kind < house.size; kind++) {
                long together = 0;
                for (int other = 0; other < house.size; other++) {
                    boolean alike = house.kinds[other][sort] == house.kinds[kind][sort];
                    together += alike ? held(house, other) : 0;
                }
                greatest = Math.max(greatest, together);
            }
            return greatest;
        }
    }

    /** What was found, and a row of six kinds that goes through all orders, rising. */
    private static final class Past {
        final int[] places = new int[FINDS_MOST];
        final int[] kinds = new int[FINDS_MOST];
        final boolean[] so = new boolean[FINDS_MOST];
        final int[] row = new int[ROW];
        final int[] kept = new int[ROW];
        int size;

        void add(int place, int kind, boolean is) {
            if (size < FINDS_MOST) {
                places[size] = place;
                kinds[size] = kind;
                so[size] = is;
                size++;
            }
        }

        /** Sets the least row of so many of each kind; false where the digits tell none. */
        boolean startRows(int digits, int kindsTold) {
            if (digits < 0 || digits > 999999) {
                return false;
            }
            int left = digits;
            int free = ROW;
            for (int kind = KINDS_MOST - 1; kind >= 0; kind--) {
                int many = left % 10;
                left /= 10;
                if (many > free || many > 0 && kind >= kindsTold) {
                    return false;
                }
                for (int i = 0; i < many; i++) {
                    free--;
                    row[free] = kind;
                }
            }
            return free == 0;
        }

        /** The next row of the same kinds, rising; false where this was the last. */
        boolean nextRow() {
            int at = ROW - 2;
            while (at >= 0 && row[at] >= row[at + 1]) {
                at--;
            }
            if (at < 0) {
                return false;
            }
            int other = ROW - 1;
            while (other > at && row[other] <= row[at]) {
                other--;
            }
            swap(at, other);
            for (int low = at + 1, high = ROW - 1; low < high; low++, high--) {
                swap(low, high);
            }
            return true;
        }

        private void swap(int i, int j) {
            int kind = row[i];
            row[i] = row[j];
            row[j] = kind;
        }

        boolean fitsAll() {
            for (int i = 0; i < size; i++) {
                if ((row[places[i]] == kinds[i]) != so[i]) {
                    return false;
                }
            }
            return true;
        }

        int rowAsDigits() {
            int digits = 0;
            for (int i = 0; i < ROW; i++) {
                digits = digits * 10 + row[i];
            }
            return digits;
        }

        /** Keeps this row; all its boxes as bits. */
        int keepRow() {
            System.arraycopy(row, 0, kept, 0, ROW);
            return (1 << ROW) - 1;
        }

        int likeKept() {
            int bits = 0;
            for (int i = 0; i < ROW; i++) {
                bits |= row[i] == kept[i] ? 1 << i : 0;
            }
            return bits;
        }
    }
}
