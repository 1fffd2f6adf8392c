import java.math.BigInteger;
import java.util.ArrayList;
import java.util.List;

/** The bounds that 'Terms' names for boxes, months, hours, acts, the log, years and images. */
public final class ActBoundsTest {
    public static void main(String[] args) {
        room();
        fewerThanEight();
        putArguments();
        taken();
        labelledOnce();
        lossWithoutLaw();
        valueAtLeastZero();
        agesAtMost();
        monthsAtOnce();
        monthsAtMost();
        labelsHold();
        labelsPutOnAgain();
        hoursBorne();
        hoursAtOnce();
        actsAtMost();
        eachIsAnAct();
        logAtMost();
        logUndone();
        plansDone();
        yearsByHand();
        yearsGoRound();
        yearsHabits();
        yearsAtOnce();
        yearsWithoutRoom();
        images();
        habits();
        laws();
        Check.finish("ActBoundsTest");
    }

    // ---- "a BOX is PUT in on top (AGE 0), if there is ROOM for its PORTIONS, and fewer than 8"

    private static void room() {
        for (int room = 1; room <= 72; room++) {
            FrostBox x = Check.house("sr" + room + ";k");
            int boxes = 0;
            for (int left = room; left > 0; left -= 9) {
                if (left < 9) {
                    Check.due("one more than room " + room, x.put(0, left + 1, false), Check.NONE);
                    Check.due("so many as before", x.count(7), room - left);
                }
                boxes++;
                Check.due("within room " + room, x.put(0, Math.min(9, left), false), boxes);
            }
            Check.due("room " + room + " is full", x.count(7), room);
            Check.due("no room in a full one", x.put(0, 1, true), Check.NONE);
            Check.due("it is no act", x.count(14), boxes);
            x.take(0);
            Check.due("room for what was taken", x.put(0, 1, true), boxes);
        }
        FrostBox told = Check.house("sr5;k;bn4");
        Check.due("the told ones count", told.put(0, 2, false), Check.NONE);
        Check.due("the last one", told.put(0, 1, false), 2);
    }

    private static void fewerThanEight() {
        for (int told = 0; told <= 8; told++) {
            FrostBox x = Check.house("sr99;k" + ";bn1".repeat(told));
            for (int boxes = told + 1; boxes <= 8; boxes++) {
                Check.due("box " + boxes + " behind " + told, x.put(0, 9, false), boxes);
            }
            Check.due("a ninth behind " + told, x.put(0, 1, false), Check.NONE);
            Check.due("eight stay", x.count(1), 8);
            Check.due("acts", x.count(14), 8 - told);
            Check.due("seven", x.take(7) >= 0, true);
            Check.due("the eighth again", x.put(0, 1, false), 8);
        }
    }

    private static void putArguments() {
        FrostBox x = Check.house("sr99;k;k;k");
        for (int kind : new int[] {-1, 3, 4, 5, 6, 7, Integer.MIN_VALUE, Integer.MAX_VALUE}) {
            Check.due("put of the kind " + kind, x.put(kind, 1, true), Check.NONE);
        }
        for (int portions : new int[] {0, 10, -1, 100, Integer.MIN_VALUE, Integer.MAX_VALUE}) {
            Check.due("put of " + portions, x.put(0, portions, true), Check.NONE);
        }
        Check.due("nothing was put in", x.count(1), 0);
        Check.due("no acts", x.count(14), 0);
        Check.due("the first kind, one portion", x.put(0, 1, true), 1);
        Check.due("the last kind, nine", x.put(2, 9, false), 2);
        Check.boxes("kinds", x, 0, 2, 0);
        Check.boxes("portions", x, 1, 9, 1);
        Check.boxes("age 0", x, 2, 0, 0);
        Check.boxes("labels", x, 3, 0, 1);
    }

    // ---- "one is TAKEN: eaten, what is above it stays in order"

    private static void taken() {
        for (int boxes = 1; boxes <= 8; boxes++) {
            for (int box = 0; box < boxes; box++) {
                StringBuilder text = new StringBuilder("k;k;k;k;k;k");
                for (int i = boxes; i > 0; i--) {
                    text.append(";bn").append(i).append("a").append(10 + i).append("k").append(i % 6).append("l").append(i % 2);
                }
                FrostBox x = Check.house(text.toString());
                // It is of age 11 + box, keeps 12 months and is worth 3 a portion.
                Check.due("take(" + box + ") of " + boxes, x.take(box), (box + 1) * Math.max(0, 3 - Math.max(0, box - 1)));
                for (int i = 0; i < boxes - 1; i++) {
                    int was = i < box ? i + 1 : i + 2;
                    Check.due("portions in order", Check.box(x, i, 1), was);
                    Check.due("ages in order", Check.box(x, i, 2), 10 + was);
                    Check.due("kinds in order", Check.box(x, i, 0), was % 6);
                    Check.due("labels in order", Check.box(x, i, 3), was % 2);
                }
                Check.due("one less", x.count(1), boxes - 1);
                Check.due("it is eaten", x.log(0, 1), box + 1);
            }
            FrostBox y = Check.house("k" + ";bn1".repeat(boxes));
            for (int box : new int[] {-1, boxes, boxes + 1, 8, Integer.MIN_VALUE, Integer.MAX_VALUE}) {
                Check.due("take(" + box + ") of " + boxes, y.take(box), Check.NONE);
            }
            Check.due("none is taken", y.count(1), boxes);
            Check.due("none is eaten", y.count(13), 0);
            Check.due("no act", y.count(14), 0);
        }
    }

    // ---- "one is LABELLED (if it has no LABEL)"

    private static void labelledOnce() {
        FrostBox x = Check.house("k;b;bl1;b;bl1");
        boolean[] free = {false, true, false, true};
        for (int box = 0; box < 4; box++) {
            Check.due("label(" + box + ")", x.label(box), free[box]);
            Check.due("label(" + box + ") again", x.label(box), false);
            Check.due("it has one", Check.box(x, box, 3), 1);
        }
        for (int box : new int[] {-1, 4, 8, Integer.MIN_VALUE, Integer.MAX_VALUE}) {
            Check.due("label(" + box + ")", x.label(box), false);
        }
        Check.due("two acts", x.count(14), 2);
        Check.due("label of none", Check.house("k").label(0), false);
    }

    // ---- "LOSS .. none at first: AGE less for how many MONTHS it KEEPS, 0 at least, 9 at most"

    private static void lossWithoutLaw() {
        for (int keeps = 1; keeps <= 36; keeps++) {
            int[] ages = {0, keeps - 1, keeps, keeps + 1, keeps + 8, keeps + 9, keeps + 10, 99};
            StringBuilder text = new StringBuilder("kp9o").append(keeps);
            for (int i = ages.length - 1; i >= 0; i--) {
                text.append(";bn1a").append(ages[i]);
            }
            Check.boxes("values of " + text, Check.house(text.toString()), 4, 9, 9, 9, 8, 1, 0, 0, 0);
        }
    }

    /** "PORTIONS times what WORTH of one less LOSS is (0 at least)". */
    private static void valueAtLeastZero() {
        for (int loss = 0; loss <= 9; loss++) {
            FrostBox x = Check.house("kp0;kp1;kp4;kp8;kp9;kp9;bk0;bk1n9;bk2n3;bk3n1;bk4n9");
            Check.withLaw(x, "y:" + loss);
            int[] worths = {9, 8, 4, 1, 0};
            int[] portions = {9, 1, 3, 9, 2};
            int all = 0;
            for (int i = 0; i < 5; i++) {
                int value = portions[i] * Math.max(0, worths[i] - loss);
                Check.due("value of worth " + worths[i] + " by loss " + loss, Check.box(x, i, 4), value);
                all += value;
            }
            Check.due("value of all", x.count(8), all);
        }
    }

    // ---- "a MONTH: AGES are one more (99 at most)"; "that is added to each AGE (99 at most)"

    private static void agesAtMost() {
        FrostBox x = Check.house("sh0;k;ba99;ba98;ba97;ba0");
        x.months(1);
        Check.boxes("a month", x, 2, 1, 98, 99, 99);
        x.months(1);
        Check.boxes("two", x, 2, 2, 99, 99, 99);
        x.months(1);
        Check.boxes("three", x, 2, 3, 99, 99, 99);
        x.off(95);
        Check.boxes("95 hours", x, 2, 98, 99, 99, 99);
        x.off(1);
        Check.boxes("one more", x, 2, 99, 99, 99, 99);
        x.off(99);
        Check.boxes("99 more", x, 2, 99, 99, 99, 99);
        for (int i = 0; i < 3; i++) {
            x.undo();
        }
        Check.boxes("undone they are as they were", x, 2, 3, 99, 99, 99);
        x.undo();
        x.undo();
        Check.boxes("behind one month", x, 2, 1, 98, 99, 99);
        FrostBox y = Check.house("sh0;k;ba0;ba1");
        y.off(99);
        Check.boxes("99 hours at once", y, 2, 99, 99);
        FrostBox z = Check.house("k;b");
        z.months(60);
        z.months(39);
        Check.boxes("99 months", z, 2, 99);
        z.months(1);
        Check.boxes("a hundred", z, 2, 99);
        z.put(0, 1, false);
        z.months(1);
        Check.boxes("one put in then", z, 2, 1, 99);
    }

    // ---- "MONTHS (1 .. 60)"; "the MONTH is one later (0 at first; 999 at most: none goes by then)"

    private static void monthsAtOnce() {
        for (int n : new int[] {1, 2, 59, 60}) {
            FrostBox x = Check.house("k;b");
            Check.due("months(" + n + ")", x.months(n), n);
            Check.due("ages", Check.box(x, 0, 2), n);
            Check.due("acts", x.count(14), Math.min(40, n));
        }
        FrostBox y = Check.house("k;b");
        for (int n : new int[] {0, -1, 61, 62, 999, Integer.MIN_VALUE, Integer.MAX_VALUE}) {
            Check.due("months(" + n + ")", y.months(n), Check.NONE);
            Check.due("years(" + n + ")", y.years(n, 1), Check.NONE);
        }
        Check.due("none went by", y.count(6), 0);
        Check.due("no act", y.count(14), 0);
        Check.due("age 0", Check.box(y, 0, 2), 0);
    }

    private static void monthsAtMost() {
        for (int left = 1; left <= 60; left++) {
            FrostBox x = Check.atMonth("k;b", 999 - left);
            if (left < 60) {
                Check.due("months beyond 999 by one", x.months(left + 1), Check.NONE);
                Check.due("years beyond 999 by one", x.years(left + 1, 1), Check.NONE);
            }
            Check.due("none went by", x.count(6), 999 - left);
            Check.due("months to 999", x.months(left), 999);
            Check.due("a month behind it", x.months(1), Check.NONE);
            Check.due("a year behind it", x.years(1, 1), Check.NONE);
            Check.due("999", x.count(6), 999);
            Check.due("one box still", x.count(1), 1);
        }
        FrostBox y = Check.atMonth("k;b", 999);
        Check.due("what is no month goes on", y.put(0, 1, true), 2);
        Check.due("hours, too", y.off(99) > 0, true);
        Check.due("put undone", y.undo() >= 0 && y.undo() >= 0, true);
        Check.due("a month undone", y.undo() >= 0, true);
        Check.due("998", y.count(6), 998);
        Check.due("it goes by again", y.months(1), 999);
    }

    // ---- "a LABEL falls off, if then as many MONTHS have gone since it was put on (last) as it holds"

    private static void labelsHold() {
        for (int holds = 1; holds <= 99; holds++) {
            FrostBox x = Check.house("sl" + holds + ";k;bl1;b");
            x.put(0, 1, true);
            if (holds > 1) {
                if (holds > 61) {
                    x.months(60);
                }
                x.months(holds - 1 - (holds > 61 ? 60 : 0));
            }
            Check.due("holds " + holds + ", a month ahead", x.nameless(), 2);
            x.months(1);
            Check.due("holds " + holds + ", they fall off", x.nameless(), 7);
            x.undo();
            Check.due("holds " + holds + ", undone", x.nameless(), 2);
            x.months(2);
            Check.due("holds " + holds + ", a month behind", x.nameless(), 7);
        }
    }

    private static void labelsPutOnAgain() {
        FrostBox x = Check.house("sl2;k;bl1;b");
        x.months(1);
        Check.due("in month 1", x.label(0), true);
        Check.due("the told one has its own still", x.label(1), false);
        x.months(1);
        Check.due("the told one falls off in month 2", x.nameless(), 2);
        Check.due("it is put on again", x.label(1), true);
        x.months(1);
        Check.due("that of month 1 falls off in month 3", x.nameless(), 1);
        x.months(1);
        Check.due("that of month 2 in month 4", x.nameless(), 3);
        // By how long it hangs, not by age, and not by hours.
        FrostBox y = Check.house("sl3h0;k;ba99l1;ba0l1");
        y.off(99);
        y.off(99);
        y.months(2);
        Check.due("two months", y.nameless(), 0);
        y.months(1);
        Check.due("three", y.nameless(), 3);
        // Put in with a label late.
        FrostBox z = Check.atMonth("sl5;k", 990);
        z.put(0, 1, true);
        z.months(4);
        Check.due("four behind 990", z.nameless(), 0);
        z.months(1);
        Check.due("five behind 990", z.nameless(), 1);
    }

    // ---- "it BEARS HOURS times PORTIONS by ROOM, cut: what n is more than that is added to each AGE"

    private static void hoursBorne() {
        int[][] houses = {{40, 9, 9}, {40, 9, 8}, {40, 9, 1}, {9, 24, 9}, {9, 0, 9}, {7, 24, 3}, {99, 24, 9}, {10, 10, 9}, {1, 24, 1},
            {11, 5, 2}, {11, 5, 3}, {12, 24, 6}};
        for (int[] h : houses) {
            int borne = h[1] * h[2] / h[0];
            for (int n : new int[] {1, borne - 1, borne, borne + 1, borne + 2, 99}) {
                if (n < 1) {
                    continue;
                }
                FrostBox x = Check.house("sr" + h[0] + "h" + h[1] + ";kp9o1;bn" + h[2]);
                int more = n > borne ? n - borne : 0;
                String call = " of " + n + " by " + h[1] + " * " + h[2] + " / " + h[0];
                int worth = 9 - Math.min(9, Math.max(0, more - 1));
                Check.due("costs" + call, x.costs(n), h[2] * (9 - worth));
                Check.due("keep" + call, x.keep(n, worth), 1);
                Check.due("keep one more" + call, x.keep(n, worth + 1), worth == 9 ? Check.NONE : 0);
                Check.due("no act yet" + call, x.count(14), 0);
                Check.due("off" + call, x.off(n), more);
                Check.due("added" + call, Check.box(x, 0, 2), Math.min(99, more));
                Check.due("an act" + call, x.count(14), 1);
                Check.due("no month" + call, x.count(6), 0);
            }
        }
        FrostBox empty = Check.house("sh24;k");
        Check.due("an empty one bears none", empty.off(1), 1);
        Check.due("an act, too", empty.count(14), 1);
        // The portions of all boxes, as they are when the current goes.
        FrostBox two = Check.house("sr10h10;k;bn3;bn4");
        Check.due("7 are borne", two.off(8), 1);
        two.take(1);
        Check.due("4 are borne", two.off(8), 4);
        Check.boxes("both added", two, 2, 5);
    }

    private static void hoursAtOnce() {
        FrostBox x = Check.house("sh0;k;b");
        x.habit(3);
        for (int n : new int[] {0, -1, 100, 101, Integer.MIN_VALUE, Integer.MAX_VALUE}) {
            Check.due("off(" + n + ")", x.off(n), Check.NONE);
            Check.due("costs(" + n + ")", x.costs(n), Check.NONE);
            Check.due("full(" + n + ")", x.full(n), Check.NONE);
            Check.due("keep(" + n + ", 0)", x.keep(n, 0), Check.NONE);
        }
        Check.due("no act", x.count(14), 0);
        Check.due("no age", Check.box(x, 0, 2), 0);
        Check.due("off(1)", x.off(1), 1);
        Check.due("off(99)", x.off(99), 99);
        Check.due("two acts", x.count(14), 2);
    }

    // ---- "All these .. are ACTS: the latest 40 can be UNDONE one by one"

    private static void actsAtMost() {
        for (int acts = 0; acts <= 60; acts++) {
            FrostBox x = Check.house("k;b");
            if (acts > 0) {
                x.months(acts);
            }
            int can = Math.min(40, acts);
            Check.due("acts of " + acts, x.count(14), can);
            for (int left = can - 1; left >= 0; left--) {
                Check.due("undo of " + acts, x.undo(), left);
            }
            Check.due("none left of " + acts, x.undo(), Check.NONE);
            Check.due("so early " + acts, x.count(6), acts - can);
            Check.due("so young " + acts, Check.box(x, 0, 2), acts - can);
            Check.due("none are left", x.count(14), 0);
        }
        // Acts behind undone ones.
        FrostBox y = Check.house("k;b");
        y.months(50);
        for (int i = 0; i < 15; i++) {
            y.undo();
        }
        y.months(20);
        Check.due("forty of 55", y.count(14), 40);
        for (int i = 0; i < 40; i++) {
            y.undo();
        }
        Check.due("month 15", y.count(6), 15);
        Check.due("no more", y.undo(), Check.NONE);
        Check.due("month 15 stays", y.count(6), 15);
    }

    private static void eachIsAnAct() {
        FrostBox x = Check.house("sr10h10;k;bn5");
        x.put(0, 1, false);
        Check.due("put", x.count(14), 1);
        x.label(0);
        Check.due("label", x.count(14), 2);
        x.off(1);
        Check.due("hours where nothing is added", x.count(14), 3);
        x.months(3);
        Check.due("each month", x.count(14), 6);
        x.take(1);
        Check.due("take", x.count(14), 7);
        x.years(4, 9);
        Check.due("each month of years", x.count(14), 11);
        // What is asked, told or looked at is none.
        x.habit(1);
        x.image();
        x.peek(0, 0);
        x.found(0, 0, true);
        Check.withLaw(x, "y:1");
        Check.tell(x, 2, "p011;t0;c01;m2");
        x.run(0, 1);
        Check.due("no others", x.count(14), 11);
        int before = x.count(1);
        Check.due("done", x.perform(0) >= 2, true);
        Check.due("each step of a plan, each of its months", x.count(14), 11 + 5);
        x.undo();
        x.undo();
        Check.due("the hours are undone one by one", x.undo(), 13);
        Check.due("then the meal", x.undo(), 12);
        Check.due("the box is back", x.count(1), before + 1);
        Check.due("then the box", x.undo(), 11);
        Check.due("as before", x.count(1), before);
    }

    // ---- "LOG: .. (the latest 60; UNDONE, too)"

    private static void logAtMost() {
        for (int meals : new int[] {0, 1, 2, 58, 59, 60, 61, 62, 119, 120, 121}) {
            FrostBox x = Check.house("kp1o36");
            for (int i = 0; i < meals; i++) {
                x.put(0, i % 9 + 1, false);
                x.take(0);
            }
            int length = Math.min(60, meals);
            int sum = 0;
            for (int i = 0; i < length; i++) {
                Check.due("log(" + i + ", 1) of " + meals, x.log(i, 1), (meals - 1 - i) % 9 + 1);
                sum += (meals - 1 - i) % 9 + 1;
            }
            Check.due("log behind the last of " + meals, x.log(length, 1), Check.NONE);
            Check.due("log(-1) of " + meals, x.log(-1, 1), Check.NONE);
            Check.due("log far of " + meals, x.log(Integer.MAX_VALUE, 0), Check.NONE);
            Check.due("log least of " + meals, x.log(Integer.MIN_VALUE, 0), Check.NONE);
            Check.due("length of " + meals, x.count(13), length);
            Check.due("value of " + meals, x.count(12), sum);
        }
    }

    private static void logUndone() {
        FrostBox x = Check.house("kp9;kp5o1;bn2;bk1n3a4;bn1a20");
        int[] values = {1, 6, 18};
        Check.due("worth 9 less 8", x.take(0), values[0]);
        Check.due("worth 5 less 3", x.take(0), values[1]);
        Check.due("worth 9", x.take(0), values[2]);
        for (int left = 2; left >= 0; left--) {
            Check.due("the latest", x.log(0, 3), values[left]);
            x.undo();
            Check.due("one meal less", x.count(13), left);
            Check.due("none behind it", x.log(left, 0), Check.NONE);
        }
        // What the log keeps is the value then, by the law then.
        FrostBox y = Check.house("kp9;bn1;bn2");
        y.take(0);
        Check.withLaw(y, "y:8");
        y.take(0);
        y.law(-1);
        Check.due("by the law", y.log(0, 3), 1);
        Check.due("ahead of it", y.log(1, 3), 18);
        Check.due("in all", y.count(12), 19);
    }

    // ---- "DO: its STEPS as ACTS, up to there"; MONTHS beyond 999

    private static void plan(String house, int month, String plan, int stops, int eaten) {
        FrostBox x = Check.atMonth(house, month);
        int acts = x.count(14);
        Check.tell(x, 2, plan);
        int steps = plan.split(";").length;
        Check.due("run of " + plan, x.run(0, 0), stops == steps ? Check.NONE : stops);
        Check.due("eaten by " + plan, x.run(0, 1), eaten);
        Check.due("apart: " + plan, x.count(14), acts);
        Check.due("perform of " + plan, x.perform(0), stops);
        Check.due("eaten then by " + plan, x.count(12), eaten);
    }

    private static void plansDone() {
        plan("k", 994, "m5", 1, 0);
        plan("k", 994, "m5;m1", 1, 0);
        plan("k", 994, "m6", 0, 0);
        plan("k", 998, "m1;m1", 1, 0);
        plan("k", 999, "m1", 0, 0);
        plan("k", 999, "p011;l0;t0", 1, 0);
        plan("k", 999, "p010;l0;t0;c99", 4, 3);
        plan("k;b", 0, "m0;t0", 0, 0);
        plan("k;b", 0, "c00;t0", 0, 0);
        plan("k;b", 0, "p000;t0", 0, 0);
        plan("k;b", 0, "p100;t0", 0, 0);
        plan("k;b", 0, "p110;t0", 0, 0);
        plan("k;b", 0, "p910;t0", 0, 0);
        plan("k;b", 0, "t1;t0", 0, 0);
        plan("k;b", 0, "t9;t0", 0, 0);
        plan("k;b", 0, "l1;t0", 0, 0);
        plan("k;bl1", 0, "l0;t0", 0, 0);
        plan("k;b", 0, "t0;t0", 1, 6);
        plan("sr9;k;b", 0, "p080;t0", 0, 0);
        plan("sr9;k;b", 0, "p070;p010;t0", 1, 0);
        plan("k;bn1;bn1;bn1;bn1;bn1;bn1;bn1", 0, "p010;p010", 1, 0);
        plan("k;bn1;bn1;bn1;bn1;bn1;bn1;bn1;bn1", 0, "p010;t0", 0, 0);
        plan("k;bn1;bn1;bn1;bn1;bn1;bn1;bn1;bn1", 0, "t7;p010;p010", 2, 3);
        // Nine months a step, sixteen steps: the latest forty of 144.
        FrostBox x = Check.house("k;b");
        Check.tell(x, 2, "m9;".repeat(15) + "m9");
        Check.due("sixteen steps", x.perform(0), 16);
        Check.due("144 months", x.count(6), 144);
        Check.due("forty acts", x.count(14), 40);
        for (int i = 0; i < 40; i++) {
            x.undo();
        }
        Check.due("104 months", x.count(6), 104);
    }

    // ---- YEARS

    /** The draws of seed 0, reckoned outside Java: 2 of 3, 3 of 9, 7 of 10, 0 of 2; 2 of 3, 2 of 9, 4 of 10, 1 of 2. */
    private static void yearsByHand() {
        for (int habit = 0; habit <= 9; habit++) {
            FrostBox x = Check.house("sl9;k;k;k;bn1a5;bn2a6");
            x.habit(habit);
            Check.due("a month", x.years(1, 0), 1);
            Check.due("put in and taken from the top", x.log(0, 0), 2);
            Check.due("four portions", x.log(0, 1), 4);
            Check.due("as fresh", x.log(0, 2), 0);
            Check.due("worth three", x.log(0, 3), 12);
            Check.boxes("two are left, a month older", x, 2, 7, 6);
            FrostBox y = Check.house("sl9;k;k;k;bn1a5;bn2a6");
            y.habit(habit);
            Check.due("two months", y.years(2, 0), 2);
            Check.due("the second from below", y.log(0, 1), 1);
            Check.due("its age then", y.log(0, 2), 6);
            Check.boxes("kinds", y, 0, 2, 0);
            Check.boxes("portions", y, 1, 3, 2);
            Check.boxes("ages", y, 2, 1, 8);
            Check.boxes("a label, if 4 is below the habit " + habit, y, 3, habit > 4 ? 1 : 0, 0);
            Check.due("two acts", y.count(14), 2);
            Check.due("one undone", y.undo(), 1);
            Check.boxes("as behind the first", y, 2, 7, 6);
            Check.due("its log", y.count(13), 1);
            Check.due("both undone", y.undo(), 0);
            Check.boxes("as told", y, 2, 6, 5);
            Check.due("an empty log", y.count(13), 0);
        }
        // Seed 20261119: 0 of 3, 6 of 9, 4 of 10, 0 of 2; seed -1: 1 of 3, 5 of 9, 7 of 10, 0 of 2.
        FrostBox z = Check.house("k;k;k;bn1");
        z.years(1, 20261119L);
        Check.due("kind by another seed", z.log(0, 0), 0);
        Check.due("portions by another seed", z.log(0, 1), 7);
        FrostBox w = Check.house("k;k;k;bn1");
        w.years(1, -1L);
        Check.due("by seed -1", w.log(0, 0), 1);
        Check.due("six portions", w.log(0, 1), 6);
        Check.due("the told one stays", Check.box(w, 0, 1), 1);
    }

    /** Years once more: numbers without bounds, cut at 64 bits, and boxes in a list, the top one first. */
    private static final class Draws {
        final BigInteger times = new BigInteger("6364136223846793005");
        final BigInteger plus = new BigInteger("1442695040888963407");
        BigInteger x;
        final List<int[]> boxes = new ArrayList<>();
        final List<int[]> log = new ArrayList<>();

        Draws(long seed) {
            x = new BigInteger(Long.toUnsignedString(seed));
        }

        int next(int j) {
            x = x.multiply(times).add(plus).mod(BigInteger.ONE.shiftLeft(64));
            return x.shiftRight(33).mod(BigInteger.valueOf(j)).intValueExact();
        }

        void month(int now, int kinds, int room, int habit, int holds) {
            int kind = next(kinds);
            int portions = next(9) + 1;
            boolean label = next(10) < habit;
            int sum = portions;
            for (int[] box : boxes) {
                sum += box[1];
            }
            if (boxes.size() < 8 && sum <= room) {
                boxes.add(0, new int[] {kind, portions, 0, label ? now : -1000});
            }
            boolean top = next(2) == 0;
            if (!boxes.isEmpty()) {
                log.add(0, boxes.remove(top ? 0 : boxes.size() - 1));
            }
            for (int[] box : boxes) {
                box[2] = Math.min(99, box[2] + 1);
                box[3] = now + 1 - box[3] == holds ? -1000 : box[3];
            }
        }
    }

    private static void yearsAs(String house, int[] told, int n, long seed, int habit) {
        // told: kinds, room, how long a label holds, boxes of one fresh portion of kind 0 without a label
        FrostBox x = Check.house(house);
        x.habit(habit);
        Draws d = new Draws(seed);
        for (int i = 0; i < told[3]; i++) {
            d.boxes.add(new int[] {0, 1, 0, -1000});
        }
        for (int i = 0; i < n; i++) {
            d.month(i, told[0], told[1], habit, told[2]);
        }
        String call = "years(" + n + ", " + seed + ") of " + house + " by habit " + habit;
        Check.due(call, x.years(n, seed), n);
        Check.due(call + ", boxes", x.count(1), d.boxes.size());
        for (int i = 0; i < d.boxes.size(); i++) {
            int[] box = d.boxes.get(i);
            Check.due(call + ", kind of " + i, Check.box(x, i, 0), box[0]);
            Check.due(call + ", portions of " + i, Check.box(x, i, 1), box[1]);
            Check.due(call + ", age of " + i, Check.box(x, i, 2), box[2]);
            Check.due(call + ", label of " + i, Check.box(x, i, 3), box[3] >= 0 ? 1 : 0);
        }
        Check.due(call + ", log", x.count(13), d.log.size());
        for (int i = 0; i < d.log.size(); i++) {
            for (int what = 0; what < 3; what++) {
                Check.due(call + ", log(" + i + ", " + what + ")", x.log(i, what), d.log.get(i)[what]);
            }
        }
        Check.due(call + ", acts", x.count(14), Math.min(40, n));
    }

    /** "(64 bits, going round)"; "(x shifted right by 33, without sign)". */
    private static void yearsGoRound() {
        long[] seeds = {0, 1, -1, 2, 7, Long.MAX_VALUE, Long.MIN_VALUE, 1L << 32, 1L << 33, -(1L << 33), 0x7fffffffL, 20261119,
            6364136223846793005L, 1442695040888963407L, -1442695040888963407L};
        for (long seed : seeds) {
            for (int n : new int[] {1, 2, 3, 12, 60}) {
                yearsAs("sr40l6;k;k;k;bn1;bn1;bn1;bn1", new int[] {3, 40, 6, 4}, n, seed, 5);
            }
        }
        yearsAs("sr9;k;k;k;k;k;k", new int[] {6, 9, 6, 0}, 60, 4, 5);
        yearsAs("sr1;k;k", new int[] {2, 1, 6, 0}, 60, 5, 5);
        yearsAs("sr99l99;k;k;k;k;k" + ";bn1".repeat(8), new int[] {5, 99, 99, 8}, 60, 6, 5);
    }

    private static void yearsHabits() {
        for (int habit = 0; habit <= 9; habit++) {
            for (long seed = 1; seed <= 12; seed++) {
                yearsAs("sr99l99;k" + ";bn1".repeat(6), new int[] {1, 99, 99, 6}, 20, seed, habit);
            }
        }
        FrostBox never = Check.house("sr99l99;k;b;b;b;b;b;b");
        never.habit(0);
        never.years(60, 3);
        Check.due("by habit 0 none is labelled", never.nameless(), 63);
    }

    /** "n (1 .. 60) MONTHS". */
    private static void yearsAtOnce() {
        for (int n : new int[] {1, 2, 40, 41, 59, 60}) {
            FrostBox x = Check.house("k;k");
            Check.due("years(" + n + ")", x.years(n, 3), n);
            Check.due("acts of years(" + n + ")", x.count(14), Math.min(40, n));
            Check.due("meals of years(" + n + ")", x.count(13), n);
        }
        FrostBox y = Check.house("k;k;b");
        for (int n : new int[] {0, -1, 61, 1000, Integer.MIN_VALUE, Integer.MAX_VALUE}) {
            Check.due("years(" + n + ")", y.years(n, 3), Check.NONE);
        }
        Check.due("refused is no month", y.count(6), 0);
        Check.due("nothing was put in or taken", y.count(1), 1);
        // Each month's draws begin where the last ones ended; the next call begins by its seed.
        FrostBox once = Check.house("k;k;k;k;k");
        once.years(6, 9);
        FrostBox twice = Check.house("k;k;k;k;k");
        twice.years(3, 9);
        twice.years(3, 9);
        Check.due("the same draws again", twice.log(0, 1) == twice.log(3, 1) && twice.log(1, 0) == twice.log(4, 0), true);
        Check.due("not so at once", once.log(0, 1) == once.log(3, 1) && once.log(1, 1) == once.log(4, 1)
                && once.log(2, 1) == once.log(5, 1), false);
    }

    /** What can't be put in is left; the draws go on all the same. */
    private static void yearsWithoutRoom() {
        FrostBox x = Check.house("sr8;k;k;k" + ";bn1".repeat(8));
        Check.due("a month", x.years(1, 0), 1);
        Check.due("none was put in, the top one taken", x.count(1), 7);
        Check.due("a told one", x.log(0, 1), 1);
        FrostBox y = Check.house("sr3;k;k;k");
        Check.due("no room, none to take", y.years(1, 0), 1);
        Check.due("none", y.count(1), 0);
        Check.due("no meal", y.count(13), 0);
        Check.due("an act", y.count(14), 1);
        FrostBox z = Check.house("sr4;k;k;k");
        z.years(1, 0);
        Check.due("room for four: eaten", z.log(0, 1), 4);
    }

    // ---- "An IMAGE keeps BOXES, the MONTH, the LOG; BACK: they are so again (no ACT can be UNDONE then)"

    private static void images() {
        FrostBox x = Check.house("sl3;k;bn1l1;bn2");
        Check.due("no image yet", x.back(), Check.NONE);
        x.months(1);
        Check.due("no image, the month stays", x.count(6), 1);
        Check.due("nor are acts lost by it", x.count(14), 1);
        Check.due("image", x.image(), 1);
        Check.due("it leaves the acts", x.count(14), 1);
        x.take(0);
        x.undo();
        x.undo();
        Check.due("undone to ahead of it", x.count(6), 0);
        Check.due("back to it", x.back(), 1);
        Check.due("no act can be undone", x.count(14), 0);
        Check.due("none", x.undo(), Check.NONE);
        x.months(1);
        Check.due("the label hangs still", x.nameless(), 1);
        x.months(1);
        Check.due("and falls off in month 3", x.nameless(), 3);
        Check.due("acts behind it", x.undo(), 1);
        Check.due("back once more", x.back(), 1);
        Check.due("and at once again", x.back(), 1);
        FrostBox y = Check.atMonth("k;b", 999);
        Check.due("an image at 999", y.image(), 999);
        y.take(0);
        Check.due("back at 999", y.back(), 999);
        Check.due("the box is there", y.count(1), 1);
        Check.due("no month goes by", y.months(1), Check.NONE);
        Check.due("the image of month 0", Check.house("k").image(), 0);
        // What an image does not keep.
        FrostBox z = Check.house("k;b");
        z.image();
        z.peek(0, 0);
        z.found(0, 0, true);
        z.habit(9);
        Check.withLaw(z, "y:1");
        Check.tell(z, 2, "t0");
        Check.tape(z, "k;k");
        z.back();
        int[] whats = {2, 3, 4, 5, 9, 10, 11};
        int[] counts = {1, 1, 3, 0, 9, 1, 1};
        for (int i = 0; i < whats.length; i++) {
            Check.due("count(" + whats[i] + ") stays", z.count(whats[i]), counts[i]);
        }
        Check.due("a refused text leaves the image", Check.tell(z, 0, "k;kk"), Check.NONE);
        Check.due("so it does", z.back(), 0);
        Check.due("another house", Check.tell(z, 0, "k"), 1);
        Check.due("has no image", z.back(), Check.NONE);
    }

    // ---- "HABIT (0 .. 9; 5 at first)", "False: out of bounds, it is so"

    private static void habits() {
        FrostBox x = new FrostBox();
        Check.due("5 at first", x.count(9), 5);
        Check.due("it is so", x.habit(5), false);
        for (int v = 0; v <= 9; v++) {
            Check.due("habit(" + v + ")", x.habit(v), true);
            Check.due("it is " + v, x.count(9), v);
            Check.due("habit(" + v + ") again", x.habit(v), false);
            for (int far : new int[] {-1, 10, 11, Integer.MIN_VALUE, Integer.MAX_VALUE}) {
                Check.due("habit(" + far + ")", x.habit(far), false);
            }
            Check.due("it stays " + v, x.count(9), v);
        }
    }

    private static void laws() {
        FrostBox x = Check.house("kp9;bn1");
        for (int laws = 0; laws <= 4; laws++) {
            Check.due("none holds", x.law(-1), true);
            Check.due("none", x.count(5), Check.NONE);
            for (int law : new int[] {-2, laws, laws + 1, 5, Integer.MIN_VALUE, Integer.MAX_VALUE}) {
                Check.due("law(" + law + ") of " + laws, x.law(law), false);
                Check.due("none still", x.count(5), Check.NONE);
            }
            for (int law = 0; law < laws; law++) {
                Check.due("law(" + law + ") of " + laws, x.law(law), true);
                Check.due("it holds", x.count(5), law);
                Check.due("no such one", x.law(laws), false);
                Check.due("it holds still", Check.box(x, 0, 4), 9 - law);
            }
            if (laws < 4) {
                Check.tell(x, 1, "y:" + laws);
            }
        }
    }
}
