import java.util.ArrayList;
import java.util.List;
import java.util.NoSuchElementException;

/**
 * The document once more, slow and plain (copies of everything, brute force), to compare with.
 * Boxes stand in a list here, the top one first.
 */
final class Model {
    static final int NONE = -1;
    static final int HIDDEN = -1000000;

    static final class Fault extends Exception {
        final int at;
        Fault(int at) {
            super(null, null, false, false);
            this.at = at;
        }
    }

    record Kind(int colour, int weight, int keeps, int worth, int goes) { }

    record Box(int kind, int n, int age, int since) {
        boolean named() {
            return since >= 0;
        }
        Box older(int more) {
            return new Box(kind, n, Math.min(99, age + more), since);
        }
    }

    record State(List<Box> boxes, int month, List<int[]> log) { }

    record House(int[] rules, List<Kind> kinds, List<Box> boxes) { }

    interface Num {
        int of(int[] letters);
    }

    interface Yes {
        boolean of(int[] letters);
    }

    record Clause(Yes yes, Num num) { }

    private final StringBuilder tape = new StringBuilder();
    private House house;
    private List<Box> boxes = new ArrayList<>();
    private int month;
    private List<int[]> eaten = new ArrayList<>();
    private final List<State> before = new ArrayList<>();
    private State image;
    private final List<List<Clause>> laws = new ArrayList<>();
    private int holding = NONE;
    private final List<List<int[]>> plans = new ArrayList<>();
    private int usual = 5;
    private final List<int[]> peeks = new ArrayList<>();
    private final List<int[]> finds = new ArrayList<>();

    // ---- reading

    private final class Reader {
        final String text = tape.toString();
        int at;

        int see() {
            while (at < text.length() && text.charAt(at) == ' ') {
                at++;
            }
            return at == text.length() ? NONE : text.charAt(at);
        }

        boolean has(String signs) {
            return see() != NONE && signs.indexOf(see()) >= 0;
        }

        int next(String signs) throws Fault {
            if (!has(signs)) {
                throw new Fault(at);
            }
            return text.charAt(at++);
        }

        int number(int most) throws Fault {
            next("0123456789");
            int start = at - 1;
            while (at < text.length() && Character.isDigit(text.charAt(at))) {
                if (at - start == most) {
                    throw new Fault(at);
                }
                at++;
            }
            return Integer.parseInt(text.substring(start, at));
        }

        int within(int least, int most) throws Fault {
            int value = number(2);
            if (value < least || value > most) {
                throw new Fault(at - 1);
            }
            return value;
        }

        int[] items(String letters, int[] values, int[][] bounds) throws Fault {
            String left = letters;
            while (has(letters)) {
                int letter = next(left);
                left = left.replace((char) letter, '~');
                int i = letters.indexOf(letter);
                values[i] = within(bounds[i][0], bounds[i][1]);
            }
            return values;
        }

        House readHouse() throws Fault {
            int[] rules = null;
            List<Kind> kinds = new ArrayList<>();
            List<Box> told = new ArrayList<>();
            boolean more = true;
            while (more) {
                String may = (rules == null ? "s" : "") + (kinds.size() < 6 ? "k" : "") + (told.size() < 8 ? "b" : "");
                int letter = next(may);
                if (letter == 's') {
                    rules = items("rhle", new int[] {40, 9, 6, 1}, new int[][] {{1, 99}, {0, 24}, {1, 99}, {0, 5}});
                } else if (letter == 'k') {
                    int[] v = items("cwopg", new int[] {0, 3, 12, 3, 6},
                            new int[][] {{0, 5}, {1, 9}, {1, 36}, {0, 9}, {0, 6}});
                    kinds.add(new Kind(v[0], v[1], v[2], v[3], v[4]));
                } else {
                    int[] v = items("knal", new int[] {0, 2, 0, 0}, new int[][] {{0, 5}, {1, 9}, {0, 99}, {0, 1}});
                    told.add(0, new Box(v[0], v[1], v[2], v[3] - 1));
                }
                more = see() != NONE;
                if (more) {
                    next(";");
                }
            }
            if (rules == null) {
                rules = new int[] {40, 9, 6, 1};
            }
            boolean good = !kinds.isEmpty() && told.stream().mapToInt(Box::n).sum() <= rules[0]
                    && told.stream().allMatch(b -> b.kind() < kinds.size())
                    && kinds.stream().allMatch(k -> k.goes() == 6 || k.goes() < kinds.size());
            if (!good) {
                throw new Fault(at);
            }
            return new House(rules, kinds, told);
        }

        List<Clause> readLaw() throws Fault {
            List<Clause> law = new ArrayList<>();
            while (true) {
                next("y");
                next(":");
                Yes yes = null;
                Num num = null;
                if (has("!(")) {
                    yes = condition(0, null);
                } else {
                    num = sum(0);
                    if (has("=<>")) {
                        yes = condition(0, num);
                    }
                }
                if (yes != null) {
                    next("?");
                    num = sum(0);
                }
                law.add(new Clause(yes, num));
                if (see() == NONE) {
                    return law;
                }
                next(";");
            }
        }

        Yes condition(int nested, Num begun) throws Fault {
            Yes left = truth(nested, begun);
            while (has("|")) {
                next("|");
                Yes a = left;
                Yes b = truth(nested, null);
                left = l -> a.of(l) || b.of(l);
            }
            return left;
        }

        Yes truth(int nested, Num begun) throws Fault {
            Yes left = unit(nested, begun);
            while (has("&")) {
                next("&");
                Yes a = left;
                Yes b = unit(nested, null);
                left = l -> a.of(l) && b.of(l);
            }
            return left;
        }

        Yes unit(int nested, Num begun) throws Fault {
            if (begun == null && has("!(")) {
                int sign = next(nested < 6 ? "!(" : "");
                Yes inner = sign == '!' ? unit(nested + 1, null) : condition(nested + 1, null);
                if (sign == '!') {
                    return l -> !inner.of(l);
                }
                next(")");
                return inner;
            }
            Num a = begun == null ? sum(nested) : begun;
            int sign = next("=<>");
            Num b = sum(nested);
            return l -> sign == '=' ? a.of(l) == b.of(l) : sign == '<' ? a.of(l) < b.of(l) : a.of(l) > b.of(l);
        }

        Num sum(int nested) throws Fault {
            Num left = term(nested);
            while (has("+-")) {
                Num a = left;
                int sign = next("+-");
                Num b = term(nested);
                left = l -> held(sign == '+' ? a.of(l) + b.of(l) : a.of(l) - b.of(l));
            }
            return left;
        }

        Num term(int nested) throws Fault {
            Num left = atom(nested);
            while (has("*/")) {
                Num a = left;
                int sign = next("*/");
                Num b = atom(nested);
                left = l -> held(sign == '*' ? (long) a.of(l) * b.of(l) : b.of(l) == 0 ? 0 : a.of(l) / b.of(l));
            }
            return left;
        }

        Num atom(int nested) throws Fault {
            if (has("0123456789")) {
                int value = number(4);
                return l -> value;
            }
            int sign = next(nested < 6 ? "aonykm[" : "aonykm");
            if (sign == '[') {
                Num inner = sum(nested + 1);
                next("]");
                return inner;
            }
            int i = "aonykm".indexOf(sign);
            return l -> l[i];
        }

        List<int[]> readPlan() throws Fault {
            List<int[]> steps = new ArrayList<>();
            while (true) {
                int sort = "ptlmc".indexOf(next("ptlmc"));
                int first = next("0123456789") - '0';
                int second = NONE;
                int third = NONE;
                if (sort == 0) {
                    second = next("0123456789") - '0';
                    third = next("01") - '0';
                } else if (sort == 4) {
                    first = 10 * first + next("0123456789") - '0';
                }
                steps.add(new int[] {sort, first, second, third});
                if (see() == NONE) {
                    return steps;
                }
                next(steps.size() < 16 ? ";" : "");
            }
        }
    }

    private static int held(long value) {
        return value > 1000000 ? 1000000 : value < -1000000 ? -1000000 : (int) value;
    }

    public int feed(int a, int b, int c, int d, int e) {
        StringBuilder more = new StringBuilder();
        for (int word : new int[] {a, b, c, d, e}) {
            for (int i = 3; i >= 0; i--) {
                char sign = (char) (word >> 8 * i & 0xff);
                if (sign != 0) {
                    more.append(sign);
                }
            }
        }
        if (tape.length() + more.length() > 240) {
            return NONE;
        }
        tape.append(more);
        return tape.length();
    }

    public boolean end(int n) {
        if (n < 0 || n > tape.length()) {
            return false;
        }
        tape.setLength(n);
        return true;
    }

    public int fault(int sort) {
        try {
            switch (sort) {
                case 0 -> new Reader().readHouse();
                case 1 -> new Reader().readLaw();
                case 2 -> new Reader().readPlan();
                default -> {
                    return -2;
                }
            }
            return NONE;
        } catch (Fault f) {
            return f.at;
        }
    }

    public int text(int sort) {
        try {
            if (sort == 0) {
                house = new Reader().readHouse();
                boxes = new ArrayList<>(house.boxes());
                month = 0;
                eaten = new ArrayList<>();
                before.clear();
                image = null;
                peeks.clear();
                finds.clear();
                tape.setLength(0);
                return house.kinds().size();
            }
            if (sort == 1 && laws.size() < 4) {
                laws.add(new Reader().readLaw());
                tape.setLength(0);
                return laws.size() - 1;
            }
            if (sort == 2 && plans.size() < 4) {
                plans.add(new Reader().readPlan());
                tape.setLength(0);
                return plans.size() - 1;
            }
            return NONE;
        } catch (Fault f) {
            return NONE;
        }
    }

    // ---- values

    private int worthOf(Box b, int below, int then) {
        int loss = b.age() - house.kinds().get(b.kind()).keeps();
        if (holding != NONE) {
            int[] letters = {b.age(), house.kinds().get(b.kind()).keeps(), b.n(), below, b.kind(), then};
            loss = 0;
            for (Clause c : laws.get(holding)) {
                if (c.yes() == null || c.yes().of(letters)) {
                    loss = c.num().of(letters);
                    break;
                }
            }
        }
        loss = loss < 0 ? 0 : loss > 9 ? 9 : loss;
        int worth = house.kinds().get(b.kind()).worth();
        return worth > loss ? worth - loss : 0;
    }

    private int valueOf(List<Box> pile, int place, int then) {
        Box b = pile.get(place);
        return b.n() * worthOf(b, pile.size() - 1 - place, then);
    }

    private int valueOfAll(List<Box> pile, int then) {
        int sum = 0;
        for (int i = 0; i < pile.size(); i++) {
            sum += valueOf(pile, i, then);
        }
        return sum;
    }

    private static List<Box> olderAll(List<Box> pile, int more) {
        List<Box> then = new ArrayList<>();
        for (Box b : pile) {
            then.add(b.older(more));
        }
        return then;
    }

    private static int portions(List<Box> pile) {
        return pile.stream().mapToInt(Box::n).sum();
    }

    private int tooMany(int hours) {
        return Math.max(0, hours - house.rules()[1] * portions(boxes) / house.rules()[0]);
    }

    private int weight(Box b) {
        return b.n() * house.kinds().get(b.kind()).weight();
    }

    private boolean isKind(int kind) {
        return house != null && kind >= 0 && kind < house.kinds().size();
    }

    private boolean isBox(int box) {
        return box >= 0 && box < boxes.size();
    }

    // ---- acts

    private void remember() {
        before.add(here());
        if (before.size() > 40) {
            before.remove(0);
        }
    }

    private State here() {
        return new State(new ArrayList<>(boxes), month, new ArrayList<>(eaten));
    }

    private void be(State s) {
        boxes = new ArrayList<>(s.boxes());
        month = s.month();
        eaten = new ArrayList<>(s.log());
    }

    private boolean mayPut(int kind, int n) {
        return isKind(kind) && n >= 1 && n <= 9 && boxes.size() < 8 && portions(boxes) + n <= house.rules()[0];
    }

    private int eatBox(int place) {
        int value = valueOf(boxes, place, month);
        Box b = boxes.remove(place);
        eaten.add(0, new int[] {b.kind(), b.n(), b.age(), value});
        if (eaten.size() > 60) {
            eaten.remove(60);
        }
        return value;
    }

    private void nextMonth() {
        month++;
        boxes = olderAll(boxes, 1);
        for (int i = 0; i < boxes.size(); i++) {
            Box b = boxes.get(i);
            if (b.named() && month - b.since() == house.rules()[2]) {
                boxes.set(i, new Box(b.kind(), b.n(), b.age(), NONE));
            }
        }
    }

    public int rule(int what) {
        return house == null || what < 0 || what > 3 ? NONE : house.rules()[what];
    }

    public int kind(int kind, int what) {
        if (!isKind(kind) || what < 0 || what > 4) {
            return NONE;
        }
        Kind k = house.kinds().get(kind);
        return switch (what) {
            case 0 -> k.colour();
            case 1 -> k.weight();
            case 2 -> k.keeps();
            case 3 -> k.worth();
            default -> k.goes() == 6 ? NONE : k.goes();
        };
    }

    public int box(int box, int what) {
        if (!isBox(box) || what < 0 || what > 6) {
            throw new NoSuchElementException();
        }
        Box b = boxes.get(box);
        return switch (what) {
            case 0 -> b.kind();
            case 1 -> b.n();
            case 2 -> b.age();
            case 3 -> b.named() ? 1 : 0;
            case 4 -> valueOf(boxes, box, month);
            case 5 -> weight(b);
            default -> boxes.size() - 1 - box;
        };
    }

    public boolean law(int law) {
        if (law < NONE || law >= laws.size()) {
            return false;
        }
        holding = law;
        return true;
    }

    public boolean habit(int v) {
        boolean is = v >= 0 && v <= 9 && v != usual;
        usual = is ? v : usual;
        return is;
    }

    public int put(int kind, int portions, boolean label) {
        if (!mayPut(kind, portions)) {
            return NONE;
        }
        remember();
        boxes.add(0, new Box(kind, portions, 0, label ? month : NONE));
        return boxes.size();
    }

    public int take(int box) {
        if (!isBox(box)) {
            return NONE;
        }
        remember();
        return eatBox(box);
    }

    public boolean label(int box) {
        if (!isBox(box) || boxes.get(box).named()) {
            return false;
        }
        remember();
        Box b = boxes.get(box);
        boxes.set(box, new Box(b.kind(), b.n(), b.age(), month));
        return true;
    }

    public int months(int n) {
        if (house == null || n < 1 || n > 60 || month + n > 999) {
            return NONE;
        }
        for (int i = 0; i < n; i++) {
            remember();
            nextMonth();
        }
        return month;
    }

    public int off(int n) {
        if (house == null || n < 1 || n > 99) {
            return NONE;
        }
        remember();
        int more = tooMany(n);
        boxes = olderAll(boxes, more);
        return more;
    }

    public int years(int n, long seed) {
        if (house == null || n < 1 || n > 60 || month + n > 999) {
            return NONE;
        }
        long[] x = {seed};
        for (int i = 0; i < n; i++) {
            remember();
            int kind = draw(x, house.kinds().size());
            int many = draw(x, 9) + 1;
            boolean named = draw(x, 10) < usual;
            if (mayPut(kind, many)) {
                boxes.add(0, new Box(kind, many, 0, named ? month : NONE));
            }
            int which = draw(x, 2);
            if (!boxes.isEmpty()) {
                eatBox(which == 0 ? 0 : boxes.size() - 1);
            }
            nextMonth();
        }
        return month;
    }

    private static int draw(long[] x, int j) {
        x[0] = x[0] * 6364136223846793005L + 1442695040888963407L;
        return (int) Long.remainderUnsigned(x[0] >>> 33, j);
    }

    public int undo() {
        if (before.isEmpty()) {
            return NONE;
        }
        be(before.remove(before.size() - 1));
        return before.size();
    }

    public int log(int i, int what) {
        return i < 0 || i >= eaten.size() || what < 0 || what > 3 ? NONE : eaten.get(i)[what];
    }

    public int step(int plan, int i, int what) {
        if (plan < 0 || plan >= plans.size() || i < 0 || i >= plans.get(plan).size() || what < 0 || what > 3) {
            return HIDDEN;
        }
        return plans.get(plan).get(i)[what];
    }

    private boolean did(int[] s) {
        return switch (s[0]) {
            case 0 -> put(s[1], s[2], s[3] == 1) != NONE;
            case 1 -> take(s[1]) != NONE;
            case 2 -> label(s[1]);
            case 3 -> months(s[1]) != NONE;
            default -> off(s[1]) != NONE;
        };
    }

    public int run(int plan, int what) {
        if (plan < 0 || plan >= plans.size() || what < 0 || what > 1 || house == null) {
            return HIDDEN;
        }
        State start = here();
        List<State> saved = new ArrayList<>(before);
        int value = 0;
        int done = 0;
        for (int[] s : plans.get(plan)) {
            int worth = s[0] == 1 && isBox(s[1]) ? valueOf(boxes, s[1], month) : 0;
            if (!did(s)) {
                break;
            }
            value += worth;
            done++;
        }
        be(start);
        before.clear();
        before.addAll(saved);
        return what == 1 ? value : done == plans.get(plan).size() ? NONE : done;
    }

    public int perform(int plan) {
        if (plan < 0 || plan >= plans.size() || house == null) {
            return NONE;
        }
        int done = 0;
        for (int[] s : plans.get(plan)) {
            if (!did(s)) {
                break;
            }
            done++;
        }
        return done;
    }

    // ---- questions

    private boolean fit(Box a, Box b) {
        return a.kind() == b.kind() || house.kinds().get(a.kind()).goes() == b.kind()
                || house.kinds().get(b.kind()).goes() == a.kind();
    }

    public int dinner(int n, int what) {
        if (house == null || n < 1 || n > 30 || what < 0 || what > 1) {
            return NONE;
        }
        int[] best = null;
        for (int set = 1; set < 1 << boxes.size(); set++) {
            List<Integer> in = new ArrayList<>();
            for (int i = 0; i < boxes.size(); i++) {
                if ((set & 1 << i) != 0) {
                    in.add(i);
                }
            }
            int many = in.stream().mapToInt(i -> boxes.get(i).n()).sum();
            boolean all = in.stream().allMatch(i -> in.stream().allMatch(j -> fit(boxes.get(i), boxes.get(j))));
            if (many < n || !all) {
                continue;
            }
            int rate = in.stream().mapToInt(i -> valueOf(boxes, i, month)).sum() * 100 / many;
            int[] it = {-rate, many, set};
            if (best == null || java.util.Arrays.compare(it, best) < 0) {
                best = it;
            }
        }
        return best == null ? NONE : what == 0 ? best[2] : -best[0];
    }

    /** All orders of eating, tried; best is {value, digits}. */
    private void orders(List<Integer> left, int digits, int value, int[] best) {
        if (left.isEmpty() && (value > best[0] || value == best[0] && digits < best[1])) {
            best[0] = value;
            best[1] = digits;
        }
        int gone = boxes.size() - left.size();
        for (int i = 0; i < left.size(); i++) {
            List<Integer> rest = new ArrayList<>(left);
            int place = rest.remove(i);
            Box b = boxes.get(place).older(gone);
            int more = b.n() * worthOf(b, left.size() - 1 - i, month + gone);
            orders(rest, 10 * digits + place, value + more, best);
        }
    }

    public int eat(int what) {
        if (house == null || what < 0 || what > 3) {
            return NONE;
        }
        if (what >= 2) {
            List<Box> pile = new ArrayList<>(boxes);
            int sum = 0;
            for (int then = month; !pile.isEmpty(); then++) {
                int place = what == 3 ? 0 : pile.size() - 1;
                sum += valueOf(pile, place, then);
                pile.remove(place);
                pile = olderAll(pile, 1);
            }
            return sum;
        }
        List<Integer> all = new ArrayList<>();
        for (int i = 0; i < boxes.size(); i++) {
            all.add(i);
        }
        int[] best = {-1, 0};
        orders(all, 0, 0, best);
        return what == 0 ? best[1] : best[0];
    }

    public int costs(int n) {
        if (house == null || n < 1 || n > 99) {
            return NONE;
        }
        return valueOfAll(boxes, month) - valueOfAll(olderAll(boxes, tooMany(n)), month);
    }

    public int full(int n) {
        if (house == null || n < 1 || n > 99) {
            return NONE;
        }
        int p = 0;
        while (p <= house.rules()[0] && house.rules()[1] * p / house.rules()[0] < n) {
            p++;
        }
        return p > house.rules()[0] ? NONE : p;
    }

    public int keep(int n, int v) {
        if (house == null || n < 1 || n > 99 || v < 0 || v > 9) {
            return NONE;
        }
        int bits = 0;
        List<Box> then = olderAll(boxes, tooMany(n));
        for (int i = 0; i < then.size(); i++) {
            bits += worthOf(then.get(i), then.size() - 1 - i, month) >= v ? 1 << i : 0;
        }
        return bits;
    }

    public int spans(int kind, int what) {
        if (!isKind(kind) || what < 0 || what > 1) {
            return NONE;
        }
        int sum = 0;
        Kind k = house.kinds().get(kind);
        for (Box b : boxes) {
            if (b.named()) {
                sum += b.kind() == kind ? b.n() : 0;
            } else if (what == 1 && house.kinds().get(b.kind()).colour() == k.colour()) {
                for (int p = 1; p <= 9; p++) {
                    sum += p * k.weight() == weight(b) ? p : 0;
                }
            }
        }
        return sum;
    }

    public int nameless() {
        if (house == null) {
            return NONE;
        }
        int bits = 0;
        for (int i = 0; i < boxes.size(); i++) {
            bits += boxes.get(i).named() ? 0 : 1 << i;
        }
        return bits;
    }

    private static int ith(List<Integer> list, int i) {
        return i == NONE ? list.size() : i < 0 || i >= list.size() ? NONE : list.get(i);
    }

    public int doubles(int i) {
        if (house == null) {
            return NONE;
        }
        List<Integer> pairs = new ArrayList<>();
        for (int pair = 0; pair < 100; pair++) {
            int u = pair / 10;
            int l = pair % 10;
            if (u < l && isBox(l) && !boxes.get(u).named() && !boxes.get(l).named()
                    && weight(boxes.get(u)) == weight(boxes.get(l))
                    && kind(boxes.get(u).kind(), 0) == kind(boxes.get(l).kind(), 0)) {
                pairs.add(pair);
            }
        }
        return ith(pairs, i);
    }

    public int peek(int sort, int seemed) {
        boolean good = sort == 0 && seemed >= 0 && seemed <= 5 || sort == 1 && seemed >= 1 && seemed <= 9;
        if (house == null || !good || peeks.size() == 12) {
            return NONE;
        }
        peeks.add(new int[] {sort, seemed});
        return peeks.size();
    }

    private long heldBy(int kind) {
        long held = 1;
        for (int[] p : peeks) {
            held *= kind(kind, p[0]) == p[1] ? 10 - house.rules()[3] : house.rules()[3];
        }
        return held;
    }

    public int what(int what) {
        if (house == null || what < 0 || what > 2) {
            return NONE;
        }
        int kinds = house.kinds().size();
        long all = 0;
        int best = kinds - 1;
        for (int k = kinds - 1; k >= 0; k--) {
            all += heldBy(k);
            best = heldBy(k) >= heldBy(best) ? k : best;
        }
        if (what < 2) {
            return what == 0 ? best : all == 0 ? 0 : (int) (1000 * heldBy(best) / all);
        }
        long[] greatest = new long[2];
        for (int sort = 0; sort < 2; sort++) {
            for (int seen = 0; seen < 10; seen++) {
                long sum = 0;
                for (int k = 0; k < kinds; k++) {
                    sum += kind(k, sort) == seen ? heldBy(k) : 0;
                }
                greatest[sort] = Math.max(greatest[sort], sum);
            }
        }
        return greatest[1] < greatest[0] ? 1 : 0;
    }

    public int found(int i, int kind, boolean is) {
        if (!isKind(kind) || i < 0 || i > 5 || finds.size() == 10) {
            return NONE;
        }
        finds.add(new int[] {i, kind, is ? 1 : 0});
        return finds.size();
    }

    /** All rows, tried; null where the digits tell none. */
    private List<Integer> rows(int digits) {
        if (house == null || digits < 0 || digits > 999999) {
            return null;
        }
        String many = String.format("%06d", digits);
        int sum = 0;
        for (int k = 0; k < 6; k++) {
            int m = many.charAt(k) - '0';
            sum += m;
            if (m > 0 && !isKind(k)) {
                return null;
            }
        }
        if (sum != 6) {
            return null;
        }
        List<Integer> rows = new ArrayList<>();
        int[] row = new int[6];
        for (int n = 0; n < 46656; n++) {
            int[] count = new int[6];
            int asDigits = 0;
            for (int i = 0, left = n; i < 6; i++, left %= (int) Math.pow(6, 6 - i)) {
                row[i] = left / (int) Math.pow(6, 5 - i);
                count[row[i]]++;
                asDigits = asDigits * 10 + row[i];
            }
            boolean good = true;
            for (int k = 0; k < 6; k++) {
                good &= count[k] == many.charAt(k) - '0';
            }
            for (int[] f : finds) {
                good &= (row[f[0]] == f[1]) == (f[2] == 1);
            }
            if (good) {
                rows.add(asDigits);
            }
        }
        return rows;
    }

    public int history(int digits, int i) {
        List<Integer> rows = rows(digits);
        return rows == null ? NONE : ith(rows, i);
    }

    public int share(int digits) {
        List<Integer> rows = rows(digits);
        if (rows == null || rows.isEmpty()) {
            return NONE;
        }
        int bits = 0;
        for (int i = 0, ten = 100000; i < 6; i++, ten /= 10) {
            int by = ten;
            long different = rows.stream().map(r -> r / by % 10).distinct().count();
            bits += different == 1 ? 1 << i : 0;
        }
        return bits;
    }

    public int lot(int what) {
        if (house == null || what < 0 || what > 1) {
            return NONE;
        }
        int sum = 0;
        int threes = 0;
        for (int set = 0; set < 1 << boxes.size(); set++) {
            if (Integer.bitCount(set) == 3) {
                int most = 0;
                for (int i = 0; i < boxes.size(); i++) {
                    most = (set & 1 << i) != 0 ? Math.max(most, valueOf(boxes, i, month)) : most;
                }
                sum += most;
                threes++;
            }
        }
        return what == 0 ? sum : threes;
    }

    public int labels(int x, int y) {
        if (house == null || x < 0 || x > 1 || y < 0 || y > 1) {
            return HIDDEN;
        }
        int without = (int) boxes.stream().filter(b -> !b.named()).count();
        return (x == 1 || y == 1 ? 2 * without : 0) - (x == 1 ? 3 : 0);
    }

    public int rests(int i) {
        if (house == null) {
            return NONE;
        }
        List<Integer> pairs = new ArrayList<>();
        for (int x = 0; x < 2; x++) {
            for (int y = 0; y < 2; y++) {
                if (labels(x, y) >= labels(1 - x, y) && labels(y, x) >= labels(1 - y, x)) {
                    pairs.add(10 * x + y);
                }
            }
        }
        return ith(pairs, i);
    }

    public int most(int what) {
        if (house == null || what < 0 || what > 1 || boxes.isEmpty()) {
            return NONE;
        }
        int best = boxes.size() - 1;
        for (int i = boxes.size() - 1; i >= 0; i--) {
            best = box(i, what == 0 ? 2 : 4) >= box(best, what == 0 ? 2 : 4) ? i : best;
        }
        return best;
    }

    public int spoilt() {
        if (house == null) {
            return NONE;
        }
        int bits = 0;
        for (int i = 0; i < boxes.size(); i++) {
            bits += valueOf(boxes, i, month) == 0 ? 1 << i : 0;
        }
        return bits;
    }

    public int buried(int box) {
        return isBox(box) ? portions(boxes.subList(0, box)) : NONE;
    }

    public int goes(int kind) {
        if (!isKind(kind)) {
            return NONE;
        }
        int bits = 0;
        for (int k = 0; k < house.kinds().size(); k++) {
            boolean does = k == kind || kind(k, 4) == kind || kind(kind, 4) == k;
            bits += does ? 1 << k : 0;
        }
        return bits;
    }

    public int soonest(int box) {
        if (!isBox(box)) {
            return NONE;
        }
        for (int j = 0; j < 100; j++) {
            if (valueOf(olderAll(boxes, j), box, month + j) == 0) {
                return j;
            }
        }
        return NONE;
    }

    public int monthly(int n) {
        return house == null || n < 0 || n > 60 ? NONE : valueOfAll(olderAll(boxes, n), month + n);
    }

    public int make(int kind, int w) {
        if (!isKind(kind)) {
            return NONE;
        }
        for (int p = 1; p <= 9; p++) {
            if (p * kind(kind, 1) == w) {
                return p;
            }
        }
        return NONE;
    }

    public int image() {
        if (house == null) {
            return NONE;
        }
        image = here();
        return month;
    }

    public int back() {
        if (image == null) {
            return NONE;
        }
        be(image);
        before.clear();
        return month;
    }

    public int count(int what) {
        return switch (what) {
            case 0 -> house == null ? 0 : house.kinds().size();
            case 1 -> boxes.size();
            case 2 -> laws.size();
            case 3 -> plans.size();
            case 4 -> tape.length();
            case 5 -> holding;
            case 6 -> month;
            case 7 -> portions(boxes);
            case 8 -> valueOfAll(boxes, month);
            case 9 -> usual;
            case 10 -> peeks.size();
            case 11 -> finds.size();
            case 12 -> eaten.stream().mapToInt(e -> e[3]).sum();
            case 13 -> eaten.size();
            case 14 -> before.size();
            default -> HIDDEN;
        };
    }
}
