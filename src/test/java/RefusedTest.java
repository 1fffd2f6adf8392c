import java.util.ArrayList;
import java.util.List;
import java.util.function.ToLongBiFunction;

/**
 * "What is refused answers as told and changes nothing": each refused call in several states, and what is only asked;
 * the object is compared with another one, made alike, that was not called.
 */
public final class RefusedTest {
    private interface Call {
        long on(FrostBox x);
    }

    private interface Start {
        FrostBox make();
    }

    private record Refused(String name, long due, Call call) { }

    private static final int LEAST = Integer.MIN_VALUE;
    private static final int MOST = Integer.MAX_VALUE;

    public static void main(String[] args) {
        List<Refused> always = refusedAlways();
        compared("a new object", RefusedTest::fresh, always);
        compared("without a house", RefusedTest::noHouse, always);
        compared("without a house", RefusedTest::noHouse, refusedWithoutHouse());
        compared("a house alone", RefusedTest::bare, always);
        compared("a house alone", RefusedTest::bare, refusedOfNothing());
        compared("in use", RefusedTest::inUse, always);
        compared("in use", RefusedTest::inUse, refusedInUse());
        compared("full", RefusedTest::full, always);
        compared("full", RefusedTest::full, refusedWhenFull());
        asked("in use", RefusedTest::inUse);
        asked("full", RefusedTest::full);
        asked("a house alone", RefusedTest::bare);
        states();
        Check.finish("RefusedTest");
    }

    // ---- how the objects are made

    private static FrostBox fresh() {
        return new FrostBox();
    }

    private static FrostBox noHouse() {
        FrostBox x = new FrostBox();
        Check.withLaw(x, "y:a+1");
        Check.tell(x, 1, "y:2");
        Check.tell(x, 2, "p011;t0;m3");
        x.habit(8);
        Check.tape(x, "k;kc3;bk1n4");
        return x;
    }

    private static FrostBox bare() {
        FrostBox x = Check.house("k");
        Check.tape(x, "k;b");
        return x;
    }

    /** Three kinds, four boxes (the second one labelled), two laws, two plans, acts, three meals, an image. */
    private static FrostBox inUse() {
        FrostBox x = Check.house("sr20h10l4;kc1w2p9g1;kc1w4p8o2;kc2p5;bk0n4a1l1;bk1n2;bk2n3a2;bn1");
        Check.withLaw(x, "y:a>3?a-2+y;y:m");
        Check.tell(x, 1, "y:3");
        Check.tell(x, 2, "p121;t0;l1;m2");
        Check.tell(x, 2, "c30;t1;t1;t1;t1");
        x.habit(7);
        x.take(0);
        x.months(2);
        x.put(1, 3, true);
        x.image();
        x.take(2);
        x.off(9);
        x.label(1);
        x.peek(0, 1);
        x.peek(1, 4);
        x.found(2, 1, true);
        x.found(3, 0, false);
        x.take(1);
        x.put(0, 2, true);
        x.put(2, 5, false);
        Check.tape(x, "k;kc3;bk1n4");
        return x;
    }

    /** Eight boxes and no room, four laws and plans, twelve looks, ten found, month 999, forty acts, a full tape. */
    private static FrostBox full() {
        FrostBox x = Check.house("sr20;kp9;kc1w5");
        for (int i = 0; i < 4; i++) {
            Check.tell(x, 1, "y:" + i + "+y");
            Check.tell(x, 2, "t" + i + ";p01" + i % 2 + ";m1");
        }
        x.law(2);
        // Each month one is put in and taken.
        x.years(60, 3);
        for (int i = 0; i < 15; i++) {
            x.months(60);
        }
        x.months(30);
        int[] portions = {3, 3, 2, 2, 2, 1, 5};
        for (int i = 0; i < portions.length; i++) {
            x.put(i % 2, portions[i], i % 3 == 0);
        }
        x.image();
        x.months(9);
        x.put(1, 2, true);
        for (int i = 0; i < 12; i++) {
            x.peek(1, i % 3 == 0 ? 5 : 3);
        }
        for (int i = 0; i < 10; i++) {
            x.found(i % 6, i % 2, i % 4 == 0);
        }
        Check.tape(x, "k;kc5" + " ".repeat(235));
        return x;
    }

    /** The states are what they are said to be. */
    private static void states() {
        FrostBox x = full();
        int[] full = {2, 8, 4, 4, 240, 2, 999, 20};
        for (int what = 0; what < full.length; what++) {
            Check.due("full: count(" + what + ")", x.count(what), full[what]);
        }
        Check.due("full: looks", x.count(10), 12);
        Check.due("full: found", x.count(11), 10);
        Check.due("full: log", x.count(13), 60);
        Check.due("full: acts", x.count(14), 40);
        FrostBox y = inUse();
        int[] used = {3, 4, 2, 2, 11, 0, 2, 14};
        for (int what = 0; what < used.length; what++) {
            Check.due("in use: count(" + what + ")", y.count(what), used[what]);
        }
        Check.due("in use: meals", y.count(13), 3);
        Check.due("in use: acts", y.count(14) > 8, true);
    }

    // ---- what is refused

    private static Refused row(String name, long due, Call call) {
        return new Refused(name, due, call);
    }

    private static Refused no(String name, Call call) {
        return new Refused(name, Check.NONE, call);
    }

    private static void each(List<Refused> rows, String name, long due, int[] values, ToLongBiFunction<FrostBox, Integer> f) {
        for (int v : values) {
            rows.add(row(name + " with " + v, due, x -> f.applyAsLong(x, v)));
        }
    }

    /** Calls that are refused in every state. */
    private static List<Refused> refusedAlways() {
        List<Refused> r = new ArrayList<>();
        int[] boxes = {-1, 8, 9, LEAST, MOST};
        int[] kinds = {-1, 6, 7, LEAST, MOST};
        int[] plans = {-1, 4, LEAST, MOST};
        int[] sorts = {-1, 3, 4, LEAST, MOST};
        int[] pairs = {-1, 2, 3, LEAST, MOST};
        int[] hours = {0, -1, 100, 101, LEAST, MOST};
        int[] months = {0, -1, 61, 1000, LEAST, MOST};
        each(r, "end", 0, new int[] {-1, 241, LEAST, MOST}, (x, v) -> x.end(v) ? 1 : 0);
        each(r, "fault", -2, sorts, (x, v) -> x.fault(v));
        each(r, "text", -1, sorts, (x, v) -> x.text(v));
        each(r, "rule", -1, new int[] {-1, 4, LEAST, MOST}, (x, v) -> x.rule(v));
        each(r, "kind", -1, kinds, (x, v) -> x.kind(v, 0));
        each(r, "kind(0, ..)", -1, new int[] {-1, 5, LEAST, MOST}, (x, v) -> x.kind(0, v));
        each(r, "box", Check.THROWN, boxes, (x, v) -> Check.box(x, v, 0));
        each(r, "box(0, ..)", Check.THROWN, new int[] {-1, 7, LEAST, MOST}, (x, v) -> Check.box(x, 0, v));
        each(r, "law", 0, new int[] {-2, 4, LEAST, MOST}, (x, v) -> x.law(v) ? 1 : 0);
        each(r, "habit", 0, new int[] {-1, 10, LEAST, MOST}, (x, v) -> x.habit(v) ? 1 : 0);
        each(r, "put of the kind", -1, kinds, (x, v) -> x.put(v, 1, true));
        each(r, "put of portions", -1, new int[] {0, -1, 10, LEAST, MOST}, (x, v) -> x.put(0, v, true));
        each(r, "take", -1, boxes, (x, v) -> x.take(v));
        each(r, "label", 0, boxes, (x, v) -> x.label(v) ? 1 : 0);
        each(r, "months", -1, months, (x, v) -> x.months(v));
        each(r, "off", -1, hours, (x, v) -> x.off(v));
        each(r, "years", -1, months, (x, v) -> x.years(v, 5));
        each(r, "log", -1, new int[] {-1, 60, LEAST, MOST}, (x, v) -> x.log(v, 0));
        each(r, "log(0, ..)", -1, new int[] {-1, 4, LEAST, MOST}, (x, v) -> x.log(0, v));
        each(r, "step of the plan", Check.HIDDEN, plans, (x, v) -> x.step(v, 0, 0));
        each(r, "step(0, .., 0)", Check.HIDDEN, new int[] {-1, 16, LEAST, MOST}, (x, v) -> x.step(0, v, 0));
        each(r, "step(0, 0, ..)", Check.HIDDEN, new int[] {-1, 4, LEAST, MOST}, (x, v) -> x.step(0, 0, v));
        each(r, "run", Check.HIDDEN, plans, (x, v) -> x.run(v, 0));
        each(r, "run(0, ..)", Check.HIDDEN, pairs, (x, v) -> x.run(0, v));
        each(r, "perform", -1, plans, (x, v) -> x.perform(v));
        each(r, "dinner", -1, new int[] {0, -1, 31, LEAST, MOST}, (x, v) -> x.dinner(v, 0));
        each(r, "dinner(1, ..)", -1, pairs, (x, v) -> x.dinner(1, v));
        each(r, "eat", -1, new int[] {-1, 4, LEAST, MOST}, (x, v) -> x.eat(v));
        each(r, "costs", -1, hours, (x, v) -> x.costs(v));
        each(r, "full", -1, hours, (x, v) -> x.full(v));
        each(r, "keep", -1, hours, (x, v) -> x.keep(v, 0));
        each(r, "keep(1, ..)", -1, new int[] {-1, 10, LEAST, MOST}, (x, v) -> x.keep(1, v));
        each(r, "spans", -1, kinds, (x, v) -> x.spans(v, 0));
        each(r, "spans(0, ..)", -1, pairs, (x, v) -> x.spans(0, v));
        each(r, "doubles", -1, new int[] {-2, 28, LEAST, MOST}, (x, v) -> x.doubles(v));
        each(r, "peek of the sort", -1, pairs, (x, v) -> x.peek(v, 1));
        each(r, "peek(0, ..)", -1, new int[] {-1, 6, LEAST, MOST}, (x, v) -> x.peek(0, v));
        each(r, "peek(1, ..)", -1, new int[] {0, -1, 10, LEAST, MOST}, (x, v) -> x.peek(1, v));
        each(r, "what", -1, sorts, (x, v) -> x.what(v));
        each(r, "found of the box", -1, new int[] {-1, 6, LEAST, MOST}, (x, v) -> x.found(v, 0, true));
        each(r, "found of the kind", -1, kinds, (x, v) -> x.found(0, v, false));
        each(r, "history", -1, new int[] {-1, 0, 500000, 700000, 1500000, LEAST, MOST}, (x, v) -> x.history(v, -1));
        each(r, "history(600000, ..)", -1, new int[] {-2, 720, LEAST, MOST}, (x, v) -> x.history(600000, v));
        each(r, "share", -1, new int[] {-1, 0, 500000, 700000, 1500000, LEAST, MOST}, (x, v) -> x.share(v));
        each(r, "lot", -1, pairs, (x, v) -> x.lot(v));
        each(r, "labels", Check.HIDDEN, pairs, (x, v) -> x.labels(v, 0));
        each(r, "labels(1, ..)", Check.HIDDEN, pairs, (x, v) -> x.labels(1, v));
        each(r, "rests", -1, new int[] {-2, 2, 4, LEAST, MOST}, (x, v) -> x.rests(v));
        each(r, "most", -1, pairs, (x, v) -> x.most(v));
        each(r, "buried", -1, boxes, (x, v) -> x.buried(v));
        each(r, "goes", -1, kinds, (x, v) -> x.goes(v));
        each(r, "soonest", -1, boxes, (x, v) -> x.soonest(v));
        each(r, "monthly", -1, new int[] {-1, 61, LEAST, MOST}, (x, v) -> x.monthly(v));
        each(r, "make", -1, kinds, (x, v) -> x.make(v, 3));
        each(r, "make(0, ..)", -1, new int[] {0, -1, 82, 90, LEAST, MOST}, (x, v) -> x.make(0, v));
        each(r, "count", Check.HIDDEN, new int[] {-1, 15, LEAST, MOST}, (x, v) -> x.count(v));
        return r;
    }

    private static List<Refused> refusedWithoutHouse() {
        List<Refused> r = new ArrayList<>();
        r.add(no("text of a fault as a law", x -> x.text(1)));
        r.add(no("text of a fault as a plan", x -> x.text(2)));
        r.add(no("rule", x -> x.rule(0)));
        r.add(no("kind", x -> x.kind(0, 0)));
        r.add(row("box", Check.THROWN, x -> Check.box(x, 0, 0)));
        r.add(row("law(2)", 0, x -> x.law(2) ? 1 : 0));
        r.add(row("habit(8)", 0, x -> x.habit(8) ? 1 : 0));
        r.add(no("put", x -> x.put(0, 1, true)));
        r.add(no("take", x -> x.take(0)));
        r.add(row("label", 0, x -> x.label(0) ? 1 : 0));
        r.add(no("months", x -> x.months(1)));
        r.add(no("off", x -> x.off(1)));
        r.add(no("years", x -> x.years(1, 1)));
        r.add(no("undo", x -> x.undo()));
        r.add(no("log", x -> x.log(0, 0)));
        r.add(row("run", Check.HIDDEN, x -> x.run(0, 0)));
        r.add(row("run value", Check.HIDDEN, x -> x.run(0, 1)));
        r.add(no("perform", x -> x.perform(0)));
        r.add(no("dinner", x -> x.dinner(1, 0)));
        for (int what = 0; what < 4; what++) {
            int w = what;
            r.add(no("eat " + w, x -> x.eat(w)));
        }
        r.add(no("costs", x -> x.costs(1)));
        r.add(no("full", x -> x.full(1)));
        r.add(no("keep", x -> x.keep(1, 0)));
        r.add(no("spans", x -> x.spans(0, 0)));
        r.add(no("nameless", x -> x.nameless()));
        r.add(no("doubles", x -> x.doubles(-1)));
        r.add(no("peek", x -> x.peek(0, 0)));
        for (int what = 0; what < 3; what++) {
            int w = what;
            r.add(no("what " + w, x -> x.what(w)));
        }
        r.add(no("found", x -> x.found(0, 0, true)));
        r.add(no("history", x -> x.history(600000, -1)));
        r.add(no("share", x -> x.share(600000)));
        r.add(no("lot", x -> x.lot(0)));
        r.add(no("threes", x -> x.lot(1)));
        r.add(row("labels", Check.HIDDEN, x -> x.labels(0, 0)));
        r.add(no("rests", x -> x.rests(-1)));
        r.add(no("oldest", x -> x.most(0)));
        r.add(no("dearest", x -> x.most(1)));
        r.add(no("spoilt", x -> x.spoilt()));
        r.add(no("buried", x -> x.buried(0)));
        r.add(no("goes", x -> x.goes(0)));
        r.add(no("soonest", x -> x.soonest(0)));
        r.add(no("monthly", x -> x.monthly(0)));
        r.add(no("make", x -> x.make(0, 3)));
        r.add(no("image", x -> x.image()));
        r.add(no("back", x -> x.back()));
        return r;
    }

    /** A house of one kind, without boxes, acts, looks, laws, plans, image. */
    private static List<Refused> refusedOfNothing() {
        List<Refused> r = new ArrayList<>();
        r.add(no("undo", x -> x.undo()));
        r.add(no("back", x -> x.back()));
        r.add(no("take", x -> x.take(0)));
        r.add(row("label", 0, x -> x.label(0) ? 1 : 0));
        r.add(row("box", Check.THROWN, x -> Check.box(x, 0, 0)));
        r.add(no("buried", x -> x.buried(0)));
        r.add(no("soonest", x -> x.soonest(0)));
        r.add(no("oldest", x -> x.most(0)));
        r.add(no("dearest", x -> x.most(1)));
        r.add(no("dinner", x -> x.dinner(1, 0)));
        r.add(no("dinner's rate", x -> x.dinner(1, 1)));
        r.add(no("log", x -> x.log(0, 0)));
        r.add(no("kind 1", x -> x.kind(1, 0)));
        r.add(no("put of kind 1", x -> x.put(1, 1, false)));
        r.add(no("found of kind 1", x -> x.found(0, 1, true)));
        r.add(no("spans of kind 1", x -> x.spans(1, 0)));
        r.add(no("goes of kind 1", x -> x.goes(1)));
        r.add(no("make of kind 1", x -> x.make(1, 3)));
        r.add(no("history of kind 1", x -> x.history(510000, -1)));
        r.add(no("share of kind 1", x -> x.share(510000)));
        r.add(no("a second row of one", x -> x.history(600000, 1)));
        r.add(no("the first of no doubles", x -> x.doubles(0)));
        r.add(no("a second rest", x -> x.rests(1)));
        r.add(row("law(0)", 0, x -> x.law(0) ? 1 : 0));
        r.add(row("habit(5)", 0, x -> x.habit(5) ? 1 : 0));
        r.add(row("step", Check.HIDDEN, x -> x.step(0, 0, 0)));
        r.add(row("run", Check.HIDDEN, x -> x.run(0, 0)));
        r.add(no("perform", x -> x.perform(0)));
        r.add(row("end(4) of three", 0, x -> x.end(4) ? 1 : 0));
        r.add(no("text as a law", x -> x.text(1)));
        r.add(no("text as a plan", x -> x.text(2)));
        r.add(no("full for more than it bears", x -> x.full(10)));
        return r;
    }

    private static List<Refused> refusedInUse() {
        List<Refused> r = new ArrayList<>();
        r.add(row("a law that is not told", 0, x -> x.law(2) ? 1 : 0));
        r.add(row("the habit it is", 0, x -> x.habit(7) ? 1 : 0));
        r.add(no("a kind that is not told", x -> x.kind(3, 0)));
        r.add(no("put of a kind that is not told", x -> x.put(3, 1, false)));
        r.add(no("put without room", x -> x.put(0, 9, true)));
        r.add(no("take behind the last", x -> x.take(x.count(1))));
        r.add(row("label behind the last", 0, x -> x.label(x.count(1)) ? 1 : 0));
        r.add(row("label of one that has it", 0, x -> x.label(1) ? 1 : 0));
        r.add(row("box behind the last", Check.THROWN, x -> Check.box(x, x.count(1), 0)));
        r.add(no("buried behind the last", x -> x.buried(x.count(1))));
        r.add(no("soonest behind the last", x -> x.soonest(x.count(1))));
        r.add(no("log behind the last", x -> x.log(x.count(13), 0)));
        r.add(row("step behind the last", Check.HIDDEN, x -> x.step(0, 4, 0)));
        r.add(row("step of a third plan", Check.HIDDEN, x -> x.step(2, 0, 0)));
        r.add(row("run of a third plan", Check.HIDDEN, x -> x.run(2, 0)));
        r.add(no("perform of a third plan", x -> x.perform(2)));
        r.add(no("dinner of more than there is", x -> x.dinner(x.count(7) + 1, 0)));
        r.add(no("doubles behind the last", x -> x.doubles(x.doubles(-1))));
        r.add(no("history behind the last", x -> x.history(420000, x.history(420000, -1))));
        r.add(no("history of a kind that is not told", x -> x.history(500100, -1)));
        r.add(no("share of a kind that is not told", x -> x.share(500100)));
        r.add(no("share of no row", x -> x.share(6000)));
        r.add(no("rests behind the last", x -> x.rests(x.rests(-1))));
        r.add(no("full for more than it bears", x -> x.full(11)));
        r.add(no("make of what can't be", x -> x.make(0, 3)));
        r.add(no("make of ten portions", x -> x.make(0, 20)));
        r.add(row("end behind the tape", 0, x -> x.end(x.count(4) + 1) ? 1 : 0));
        r.add(no("text as a law", x -> x.text(1)));
        r.add(no("text as a plan", x -> x.text(2)));
        r.add(row("a plan that can't begin", 0, x -> {
            // Its first step is to take the box 9 below the top one.
            Check.tape(x, "t9;t0");
            int plan = x.text(2);
            int done = x.perform(plan);
            Check.tape(x, "k;kc3;bk1n4");
            return done == 0 && x.run(plan, 0) == 0 && x.run(plan, 1) == 0 ? 0 : 1;
        }));
        return r;
    }

    private static List<Refused> refusedWhenFull() {
        List<Refused> r = new ArrayList<>();
        r.add(no("put of a ninth", x -> x.put(0, 1, true)));
        r.add(no("months behind 999", x -> x.months(1)));
        r.add(no("sixty months behind 999", x -> x.months(60)));
        r.add(no("years behind 999", x -> x.years(1, 1)));
        r.add(no("a thirteenth look", x -> x.peek(0, 1)));
        r.add(no("an eleventh found", x -> x.found(0, 0, true)));
        r.add(no("a 241st byte", x -> x.feed(0, 0, 0, 0, 'k')));
        r.add(no("twenty bytes more", x -> x.feed(-1, -1, -1, -1, -1)));
        r.add(no("a 61st meal", x -> x.log(60, 0)));
        r.add(row("end(241)", 0, x -> x.end(241) ? 1 : 0));
        r.add(row("label of one that has it", 0, x -> x.label(0) ? 1 : 0));
        r.add(row("the habit it is", 0, x -> x.habit(5) ? 1 : 0));
        r.add(row("a fifth law", -1, x -> {
            Check.tape(x, "y:1");
            int law = x.text(1);
            boolean stays = x.count(4) == 3 && x.count(2) == 4 && x.fault(1) == Check.NONE;
            Check.tape(x, "k;kc5" + " ".repeat(235));
            return stays ? law : 1;
        }));
        r.add(row("a fifth plan", -1, x -> {
            Check.tape(x, "t0");
            int plan = x.text(2);
            boolean stays = x.count(4) == 2 && x.count(3) == 4 && x.fault(2) == Check.NONE;
            Check.tape(x, "k;kc5" + " ".repeat(235));
            return stays ? plan : 1;
        }));
        r.add(row("a house with a fault", -1, x -> {
            Check.tape(x, "sr9;kc3;k;bn3;bn7");
            int kinds = x.text(0);
            boolean stays = x.count(4) == 17 && x.fault(0) == 17;
            Check.tape(x, "k;kc5" + " ".repeat(235));
            return stays ? kinds : 1;
        }));
        return r;
    }

    // ---- comparing

    private static void compared(String state, Start start, List<Refused> rows) {
        for (Refused r : rows) {
            FrostBox x = start.make();
            String call = state + ": " + r.name;
            Check.due(call, r.call.on(x), r.due);
            same(call, x, start.make(), r.name.equals("a plan that can't begin"));
        }
    }

    private static void same(String call, FrostBox x, FrostBox y, boolean morePlans) {
        List<Long> got = seen(x, morePlans);
        List<Long> want = seen(y, morePlans);
        Check.due(call + ": as much is seen", got.size(), want.size());
        for (int i = 0; i < want.size() && i < got.size(); i++) {
            Check.due(call + ": what is seen, " + i, got.get(i), want.get(i));
        }
    }

    private static void seeBoxes(FrostBox x, List<Long> all) {
        for (int what : new int[] {1, 6, 7, 8, 12, 13, 14}) {
            all.add((long) x.count(what));
        }
        for (int box = 0; box < x.count(1); box++) {
            for (int what = 0; what < 4; what++) {
                all.add((long) Check.box(x, box, what));
            }
        }
        for (int what = 0; what < 4; what++) {
            all.add((long) x.log(0, what));
        }
    }

    /** All that can be seen, at last by undoing, by going back to the image and by telling the text on the tape. */
    private static List<Long> seen(FrostBox x, boolean morePlans) {
        List<Long> all = new ArrayList<>();
        for (int what = 0; what < 15; what++) {
            all.add(what == 3 && morePlans ? 0L : x.count(what));
        }
        for (int what = 0; what < 4; what++) {
            all.add((long) x.rule(what));
            all.add((long) x.step(0, what, 0));
            all.add((long) x.step(0, what, 1));
            all.add((long) x.step(1, what, 2));
        }
        for (int kind = 0; kind < 3; kind++) {
            for (int what = 0; what < 5; what++) {
                all.add((long) x.kind(kind, what));
            }
        }
        for (int what = 0; what < 3; what++) {
            all.add((long) x.what(what));
            all.add((long) x.fault(what));
        }
        for (int digits : new int[] {600000, 510000, 420000, 330000, 411000}) {
            all.add((long) x.history(digits, -1));
            all.add((long) x.share(digits));
        }
        all.add((long) x.nameless());
        seeBoxes(x, all);
        for (int i = 0; i < 3; i++) {
            all.add((long) x.undo());
            seeBoxes(x, all);
        }
        all.add((long) x.back());
        seeBoxes(x, all);
        all.add((long) x.text(0));
        all.add((long) x.kind(1, 0));
        seeBoxes(x, all);
        return all;
    }

    // ---- what is only asked changes nothing either

    private static void asked(String state, Start start) {
        List<Refused> r = new ArrayList<>();
        int[] small = {-1, 0, 1, 2, 3};
        each(r, "fault", 0, new int[] {0, 1, 2}, (x, v) -> x.fault(v));
        each(r, "box", 0, small, (x, v) -> Check.box(x, v, 4));
        each(r, "log", 0, small, (x, v) -> x.log(v, 3));
        each(r, "step", 0, small, (x, v) -> x.step(0, v, 1));
        each(r, "run", 0, new int[] {0, 1}, (x, v) -> x.run(v, 0) + x.run(v, 1));
        each(r, "dinner", 0, new int[] {1, 5, 15}, (x, v) -> x.dinner(v, 0) + x.dinner(v, 1));
        each(r, "eat", 0, new int[] {0, 1, 2, 3}, (x, v) -> x.eat(v));
        each(r, "hours", 0, new int[] {1, 9, 99}, (x, v) -> x.costs(v) + x.full(v) + x.keep(v, 3));
        each(r, "spans", 0, new int[] {0, 1}, (x, v) -> x.spans(0, v) + x.nameless());
        each(r, "doubles", 0, small, (x, v) -> x.doubles(v));
        each(r, "what", 0, new int[] {0, 1, 2}, (x, v) -> x.what(v));
        each(r, "history", 0, small, (x, v) -> x.history(420000, v) + x.share(420000));
        each(r, "lot", 0, new int[] {0, 1}, (x, v) -> x.lot(v) + x.labels(v, 1 - v) + x.rests(v) + x.most(v));
        each(r, "spoilt", 0, small, (x, v) -> x.spoilt() + x.buried(v) + x.goes(v) + x.soonest(v));
        each(r, "monthly", 0, new int[] {0, 7, 60}, (x, v) -> x.monthly(v) + x.make(0, v));
        for (Refused a : r) {
            FrostBox x = start.make();
            a.call.on(x);
            same(state + ": " + a.name, x, start.make(), false);
        }
    }
}
