/** Promises 20 to 26: plans run and done, dinners, the order of eating, hours without current. */
public final class MealsTest {
    public static void main(String[] args) {
        promise20();
        promise20Steps();
        promise21();
        promise22();
        promise23();
        promise23Laws();
        promise24();
        promise25();
        promise26();
        Check.finish("MealsTest");
    }

    private static void promise20() {
        FrostBox x = Check.house("sr20;kp9o2;kp4;bn3a1;bk1n2");
        Check.tell(x, 2, "t1;m4;p150;t1;t0");
        Check.tell(x, 2, "t1;t1;m1");
        Check.due("20: all can be", x.run(0, 0), Check.NONE);
        // 3 portions of 9; behind four months 2 of 4 still, and 5 fresh ones.
        Check.due("20: eaten", x.run(0, 1), 27 + 8 + 20);
        Check.due("20: behind one", x.run(1, 0), 1);
        Check.due("20: eaten up to there", x.run(1, 1), 27);
        Check.due("20: apart", x.count(1), 2);
        Check.due("20: no acts", x.count(14), 0);
        Check.due("20: no log", x.count(13), 0);
        Check.due("20: no month", x.count(6), 0);
        Check.due("20: no such plan", x.run(2, 0), Check.HIDDEN);
        Check.due("20: plan -1", x.run(-1, 0), Check.HIDDEN);
        Check.due("20: what 2", x.run(0, 2), Check.HIDDEN);
        Check.due("20: what -1", x.run(0, -1), Check.HIDDEN);
    }

    /** Behind how many steps the plan can't go on, so many months after the house was told. */
    private static void stops(String house, int monthsAhead, String plan, int want) {
        FrostBox x = Check.house(house);
        for (int left = monthsAhead; left > 0; left -= 60) {
            x.months(Math.min(60, left));
        }
        int acts = x.count(14);
        Check.tell(x, 2, plan);
        Check.due("20: " + plan + " stops behind", x.run(0, 0), want);
        Check.due("20: " + plan + " leaves the acts", x.count(14), acts);
        int done = x.perform(0);
        Check.due("21: " + plan + " is done", done, want == Check.NONE ? plan.split(";").length : want);
    }

    private static void promise20Steps() {
        stops("k", 0, "p010;p000", 1);
        stops("k", 0, "p110", 0);
        stops("k;k", 0, "p110", Check.NONE);
        stops("sr5;k", 0, "p030;p030", 1);
        stops("sr5;k", 0, "p030;p020", Check.NONE);
        stops("sr5;k", 0, "p030;t0;p030", Check.NONE);
        stops("k;b;b;b;b;b;b;b", 0, "p010;p010", 1);
        stops("k;b", 0, "t1", 0);
        stops("k;b", 0, "t0;t0", 1);
        stops("k;b;bl1", 0, "l1;l0", 1);
        stops("k;b", 0, "l0;l0", 1);
        stops("k;b", 0, "l1", 0);
        stops("k", 0, "p011;l0", 1);
        stops("k", 0, "p010;l0", Check.NONE);
        stops("sl2;k", 0, "p011;m1;l0", 2);
        stops("sl2;k", 0, "p011;m2;l0", Check.NONE);
        stops("k", 0, "m1;m0", 1);
        stops("k", 0, "c01;c00", 1);
        stops("k", 0, "c99", Check.NONE);
        stops("k", 990, "m9;m1", 1);
        stops("k", 990, "m5;m5", 1);
        stops("k", 991, "m9", 0);
        FrostBox x = Check.house("sr10h9;kp9o1;bn2");
        Check.tell(x, 2, "c03;t0");
        // It bears 9 * 2 / 10 = 1 hour: two more are added to the age.
        Check.due("20: hours make older", x.run(0, 1), 16);
        Check.tell(x, 0, "sr10h9;kp9o1;bn9");
        Check.due("20: a fuller one bears them", x.run(0, 1), 81);
        FrostBox y = Check.house("kp9o1;bn1;bn1");
        Check.withLaw(y, "y:y+m");
        Check.tell(y, 2, "m3;t0;p010;t1");
        Check.due("20: by the law then", y.run(0, 1), 5 + 6);
        FrostBox z = Check.house("kp9;k");
        Check.withLaw(z, "y:a*3");
        Check.tell(z, 2, "p020;m2;p010;t0;t0");
        Check.due("20: put in with age 0", z.run(0, 1), 9 + 2 * 3);
    }

    private static void promise21() {
        String sixteen = "p011;t0;p021;t0;p031;t0;p041;t0;m1;c99;m9;p011;p021;t1;t0;m3";
        FrostBox full = Check.house("kp9;kp1");
        Check.tell(full, 2, sixteen);
        Check.due("20: sixteen can be", full.run(0, 0), Check.NONE);
        Check.due("20: sixteen steps eat", full.run(0, 1), 9 * (1 + 2 + 3 + 4 + 1 + 2));
        Check.due("21: sixteen are done", full.perform(0), 16);
        Check.due("21: as acts", full.count(14), 8 + 1 + 1 + 9 + 4 + 3);
        Check.due("21: and eaten", full.count(12), 9 * (1 + 2 + 3 + 4 + 1 + 2));
        FrostBox x = Check.house("sr20;kp9;kp4;bn3;bk1n2");
        Check.tell(x, 2, "p151;t2;m3;l1;c90;l9;m1");
        Check.due("21: done", x.perform(0), 5);
        Check.due("21: acts", x.count(14), 7);
        Check.boxes("21: kinds", x, 0, 1, 1);
        Check.boxes("21: ages", x, 2, 90, 90);
        Check.due("21: month", x.count(6), 3);
        Check.due("21: labels", x.nameless(), 0);
        Check.due("21: eaten", x.log(0, 3), 27);
        x.undo();
        Check.boxes("21: hours undone", x, 2, 3, 3);
        x.undo();
        Check.due("21: label undone", x.nameless(), 2);
        x.undo();
        x.undo();
        Check.due("21: one of three months is left", x.count(6), 1);
        Check.due("21: no such plan", x.perform(1), Check.NONE);
        Check.due("21: plan -1", x.perform(-1), Check.NONE);
        Check.due("21: refused is no act", x.count(14), 3);
    }

    private static void promise22() {
        // Places: 0 is kind 2, 1 is kind 1, 2 is kind 0; kind 0 goes with 1, none with 2.
        FrostBox x = Check.house("kp9g1;kp5;kp6;bn2;bk1n3;bk2n4");
        Check.due("22: of one portion", x.dinner(1, 0), 4);
        Check.due("22: by portion", x.dinner(1, 1), 900);
        Check.due("22: of three", x.dinner(3, 0), 6);
        Check.due("22: 33 by 5", x.dinner(3, 1), 660);
        Check.due("22: of five", x.dinner(5, 0), 6);
        Check.due("22: six there are none", x.dinner(6, 0), Check.NONE);
        Check.due("22: nor what", x.dinner(6, 1), Check.NONE);
        Check.due("22: 0", x.dinner(0, 0), Check.NONE);
        Check.due("22: 31", x.dinner(31, 0), Check.NONE);
        Check.due("22: -1", x.dinner(-1, 0), Check.NONE);
        Check.due("22: what 2", x.dinner(1, 2), Check.NONE);
        Check.due("22: what -1", x.dinner(1, -1), Check.NONE);
        Check.due("22: no boxes", Check.house("k").dinner(1, 0), Check.NONE);
        // It goes with from either side, but not by way of a third.
        FrostBox y = Check.house("kg1;kg2;k;b;bk1;bk2");
        Check.due("22: 0 and 1, or 1 and 2", y.dinner(4, 0), 3);
        Check.due("22: not all three", y.dinner(5, 0), Check.NONE);
        FrostBox z = Check.house("kg1;kg2;kg0;b;bk1;bk2");
        Check.due("22: each two of three", z.dinner(5, 0), 7);
        // Of several the fewest portions, then the least bits; the cut makes several.
        FrostBox t = Check.house("kp3;bn2;bn1;bn1;bn3");
        Check.due("22: least bits of fewest portions", t.dinner(1, 0), 2);
        Check.due("22: of two", t.dinner(2, 0), 6);
        Check.due("22: of three", t.dinner(3, 0), 1);
        Check.due("22: of four", t.dinner(4, 0), 3);
        Check.due("22: of seven", t.dinner(7, 0), 15);
        FrostBox u = Check.house("kp9;kp8g0;bn9;bk1n1");
        Check.due("22: cut", u.dinner(10, 1), 890);
        FrostBox v = Check.house("sr99;k;bn9;bn9;bn9;bn3");
        Check.due("22: thirty", v.dinner(30, 0), 15);
        v.put(0, 9, false);
        Check.due("22: thirty-nine", v.dinner(30, 0), 15);
        Check.due("22: but of 31 none is asked", v.dinner(31, 0), Check.NONE);
        FrostBox w = Check.house("kp0;bn3;bn2");
        Check.due("22: of no worth", w.dinner(1, 0), 1);
        Check.due("22: that is 0", w.dinner(1, 1), 0);
    }

    private static void promise23() {
        // Place 0: kind 1, worth 9 and keeps; place 1: kind 0, spoils each month.
        FrostBox x = Check.house("kp5o1;kp9;bn3a1;bk1n2");
        Check.due("23: what spoils first", x.eat(0), 10);
        Check.due("23: together", x.eat(1), 15 + 18);
        Check.due("23: from below", x.eat(2), 33);
        Check.due("23: from the top", x.eat(3), 18 + 12);
        FrostBox y = Check.house("kp5;b;b;b");
        Check.due("23: of several the least digits", y.eat(0), 12);
        FrostBox one = Check.house("kp5;bn2");
        Check.due("23: one box is 0", one.eat(0), 0);
        Check.due("23: its value", one.eat(1), 10);
        FrostBox none = Check.house("k");
        for (int what = 0; what < 4; what++) {
            Check.due("23: no boxes, " + what, none.eat(what), 0);
        }
        FrostBox poor = Check.house("kp0;b;b");
        Check.due("23: of no worth", poor.eat(1), 0);
        Check.due("23: in the least order", poor.eat(0), 1);
        Check.due("23: what 4", x.eat(4), Check.NONE);
        Check.due("23: what -1", x.eat(-1), Check.NONE);
        // Ages grow no further than 99.
        FrostBox old = Check.house("kp9;ba99n1;ba98n1;ba99n1;ba99n1");
        Check.withLaw(old, "y:a-95");
        Check.due("23: 99 at most", old.eat(1), 6 + 5 * 3);
        Check.due("23: the youngest now", old.eat(0), 2013);
        Check.due("23: is eaten so", old.eat(2), 5 * 4);
        FrostBox eight = Check.house("kp9o1;bn1a1;bn2a1;bn3a1;bn4a1;bn4a1;bn3a1;bn5a1;bn6a1");
        Check.due("23: eight boxes", eight.eat(0), 1_342_567);
        Check.due("23: eight together", eight.eat(1), 6 * 9 + 5 * 8 + 4 * 7 + 4 * 6 + 3 * 5 + 3 * 4 + 2 * 3 + 2);
    }

    private static void promise23Laws() {
        // Boxes of one portion; the loss is how many lie below then.
        FrostBox x = Check.house("kp9;bn1;bn1;bn1");
        Check.withLaw(x, "y:y");
        Check.due("23: from below none lies below", x.eat(2), 27);
        Check.due("23: from the top", x.eat(3), 7 + 8 + 9);
        Check.due("23: most", x.eat(1), 27);
        Check.due("23: the order from below", x.eat(0), 210);
        // The month as it is then, behind 999 too.
        FrostBox y = Check.house("kp9;bn1;bn1;bn1");
        Check.withLaw(y, "y:m>999?5;y:0");
        for (int i = 0; i < 16; i++) {
            y.months(60);
        }
        y.months(38);
        Check.due("23: behind month 999", y.eat(1), 9 + 9 + 4);
        Check.due("23: from below, too", y.eat(2), 22);
        Check.due("23: from the top, too", y.eat(3), 22);
        y.months(1);
        Check.due("23: at 999", y.eat(1), 9 + 4 + 4);
        FrostBox z = Check.house("kp9;kp9;bn1;bk1n5");
        Check.withLaw(z, "y:k=1&m=0?9;y:m*2");
        Check.due("23: better later", z.eat(0), 10);
        Check.due("23: together", z.eat(1), 9 + 35);
    }

    private static void promise24() {
        FrostBox x = Check.house("sr20h10;kp5o2;bn4a2;bn2a5");
        // It bears 10 * 6 / 20 = 3 hours.
        Check.due("24: borne", x.costs(3), 0);
        Check.due("24: one more", x.costs(4), 4 + 2);
        Check.due("24: three more", x.costs(6), 12 + 4);
        Check.due("24: all", x.costs(99), 20 + 4);
        Check.due("24: nothing is done", x.count(8), 24);
        Check.due("24: 0", x.costs(0), Check.NONE);
        Check.due("24: 100", x.costs(100), Check.NONE);
        Check.due("24: -5", x.costs(-5), Check.NONE);
        FrostBox y = Check.house("sh0;kp9;bn2;bn1a98");
        Check.withLaw(y, "y:a/33*3+y");
        Check.due("24: by a law", y.costs(1), 2);
        Check.withLaw(y, "y:9-a");
        Check.due("24: what grows better", y.costs(4), -8);
        Check.withLaw(y, "y:m");
        Check.due("24: no month goes by", y.costs(50), 0);
        // 99 at most: by 99 hours 98 is 99.
        FrostBox z = Check.house("sh0;kp9;bn1a98");
        Check.withLaw(z, "y:a-98");
        Check.due("24: ages 99 at most", z.costs(99), 1);
    }

    private static void promise25() {
        FrostBox x = Check.house("k;bn9");
        Check.due("25: one hour", x.full(1), 5);
        Check.due("25: two", x.full(2), 9);
        Check.due("25: nine", x.full(9), 40);
        Check.due("25: ten", x.full(10), Check.NONE);
        Check.due("25: 99", x.full(99), Check.NONE);
        Check.due("25: 0", x.full(0), Check.NONE);
        Check.due("25: 100", x.full(100), Check.NONE);
        Check.due("25: no house", new FrostBox().full(1), Check.NONE);
        FrostBox y = Check.house("sr7h24;k");
        Check.due("25: 24 * 2 / 7", y.full(6), 2);
        Check.due("25: 24 * 3 / 7", y.full(7), 3);
        Check.due("25: full", y.full(24), 7);
        Check.due("25: h0", Check.house("sh0;k").full(1), Check.NONE);
    }

    private static void promise26() {
        FrostBox x = Check.house("sr20h10;kp5o2;kp9o4;bn4a2;bk1n2a3;bn2a9");
        // Places: 0 is kind 0 of age 9, 1 kind 1 of age 3, 2 kind 0 of age 2; it bears 4 hours.
        Check.due("26: borne", x.keep(4, 5), 6);
        Check.due("26: nine", x.keep(4, 9), 2);
        Check.due("26: one more", x.keep(5, 5), 2);
        Check.due("26: four then", x.keep(5, 4), 6);
        Check.due("26: nine then", x.keep(5, 9), 2);
        Check.due("26: two more", x.keep(6, 9), 0);
        Check.due("26: none is below 0", x.keep(99, 0), 7);
        Check.due("26: one", x.keep(99, 1), 0);
        Check.due("26: 0 hours", x.keep(0, 5), Check.NONE);
        Check.due("26: 100 hours", x.keep(100, 5), Check.NONE);
        Check.due("26: v -1", x.keep(4, -1), Check.NONE);
        Check.due("26: v 10", x.keep(4, 10), Check.NONE);
        Check.due("26: no boxes", Check.house("k").keep(1, 0), 0);
        Check.due("26: no house", new FrostBox().keep(1, 0), Check.NONE);
        Check.withLaw(x, "y:a+y");
        Check.due("26: by a law", x.keep(4, 3), 6);
        Check.due("26: of a portion, not of all", x.keep(4, 4), 2);
        Check.withLaw(x, "y:m");
        Check.due("26: the month stays", x.keep(50, 9), 2);
    }
}
