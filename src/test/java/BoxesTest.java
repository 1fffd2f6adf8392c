/** Promises 6 to 18: what is told, what is done by hand, years, undone acts, the log. */
public final class BoxesTest {
    public static void main(String[] args) {
        promise6();
        promise7();
        promise8();
        promise9();
        lawsReckon();
        promise10();
        promise11();
        promise12();
        promise13();
        promise14();
        labelsFallOff();
        promise15();
        promise16();
        promise17();
        promise18();
        Check.finish("BoxesTest");
    }

    private static void promise6() {
        FrostBox x = Check.house("k");
        int[] usual = {40, 9, 6, 1};
        int[] told = {7, 24, 99, 0};
        FrostBox y = Check.house("k;sl99e0h24r7");
        for (int i = 0; i < 4; i++) {
            Check.due("6: usual rule " + i, x.rule(i), usual[i]);
            Check.due("6: told rule " + i, y.rule(i), told[i]);
        }
        Check.due("6: rule(-1)", x.rule(-1), Check.NONE);
        Check.due("6: rule(4)", x.rule(4), Check.NONE);
        Check.due("6: no house", new FrostBox().rule(3), Check.NONE);
    }

    private static void promise7() {
        FrostBox x = Check.house("k;kp8g0o36w7c5;kg2");
        int[][] kinds = {{0, 3, 12, 3, -1}, {5, 7, 36, 8, 0}, {0, 3, 12, 3, 2}};
        for (int k = 0; k < 3; k++) {
            for (int what = 0; what < 5; what++) {
                Check.due("7: kind(" + k + ", " + what + ")", x.kind(k, what), kinds[k][what]);
            }
        }
        Check.due("7: kind(3)", x.kind(3, 0), Check.NONE);
        Check.due("7: kind(-1)", x.kind(-1, 0), Check.NONE);
        Check.due("7: what 5", x.kind(0, 5), Check.NONE);
        Check.due("7: what -1", x.kind(0, -1), Check.NONE);
        Check.due("7: g6 told", Check.house("kg6").kind(0, 4), Check.NONE);
        Check.tell(x, 0, "kc1");
        Check.due("7: kinds of the last house are gone", x.kind(1, 0), Check.NONE);
        Check.due("7: of the new one", x.kind(0, 0), 1);
    }

    private static void promise8() {
        FrostBox x = Check.house("kw2o3p9;kw5;bn3a7l1;bk1n4;ba99n9");
        int[][] boxes = {{0, 9, 99, 0, 0, 18, 2}, {1, 4, 0, 0, 12, 20, 1}, {0, 3, 7, 1, 15, 6, 0}};
        for (int b = 0; b < 3; b++) {
            for (int what = 0; what < 7; what++) {
                Check.due("8: box(" + b + ", " + what + ")", Check.box(x, b, what), boxes[b][what]);
            }
        }
        Check.due("8: box(3)", Check.box(x, 3, 0), Check.THROWN);
        Check.due("8: box(-1)", Check.box(x, -1, 0), Check.THROWN);
        Check.due("8: what 7", Check.box(x, 0, 7), Check.THROWN);
        Check.due("8: what -1", Check.box(x, 0, -1), Check.THROWN);
        Check.due("8: no boxes", Check.box(Check.house("k"), 0, 0), Check.THROWN);
        Check.due("8: no house", Check.box(new FrostBox(), 0, 0), Check.THROWN);
        // The loss is at least 0 and at most 9, what a portion is worth at least 0.
        FrostBox y = Check.house("ko36p9;ko1p9;ko1p5;bn1a35;bn1a36;bn1a37;bk1n1a9;bk1n1a10;bk1n1a60;bk2n1a7");
        Check.boxes("8: values", y, 4, 0, 0, 0, 1, 8, 9, 9);
    }

    private static void promise9() {
        FrostBox x = Check.house("kp9;bn2");
        Check.due("9: NONE without laws", x.law(-1), true);
        Check.due("9: no such law", x.law(0), false);
        Check.tell(x, 1, "y:2");
        Check.tell(x, 1, "y:5");
        Check.due("9: none holds as it is told", x.count(5), Check.NONE);
        Check.due("9: value without", Check.box(x, 0, 4), 18);
        Check.due("9: law(1)", x.law(1), true);
        Check.due("9: it holds", x.count(5), 1);
        Check.due("9: value by it", Check.box(x, 0, 4), 8);
        Check.due("9: law(0)", x.law(0), true);
        Check.due("9: value by the other", Check.box(x, 0, 4), 14);
        Check.due("9: again", x.law(0), true);
        Check.due("9: law(2)", x.law(2), false);
        Check.due("9: law(-2)", x.law(-2), false);
        Check.due("9: it stays", x.count(5), 0);
        Check.due("9: NONE", x.law(-1), true);
        Check.due("9: none holds", Check.box(x, 0, 4), 18);
        // The next law is read into no law that holds.
        x.law(1);
        Check.tape(x, "y:9");
        x.fault(1);
        Check.due("9: after a fault asked", Check.box(x, 0, 4), 8);
    }

    /** The loss by a law for a box of age 7, 3 portions, kind 1 (keeps 20), one box below, in month 0. */
    private static void loss(String law, int want) {
        FrostBox x = Check.house("k;kp9o20;b;bk1n3a7");
        Check.withLaw(x, law);
        Check.due("9: loss by " + law, 9 - Check.box(x, 0, 4) / 3, want);
    }

    private static void lawsReckon() {
        loss("y:a", 7);
        loss("y:o", 9);
        loss("y:o/4", 5);
        loss("y:n", 3);
        loss("y:y", 1);
        loss("y:k*2", 2);
        loss("y:m", 0);
        loss("y:m+1", 1);
        loss("y:0-5", 0);
        loss("y:12", 9);
        loss("y:1+2*3", 7);
        loss("y:[1+2]*2", 6);
        loss("y:9-3-2", 4);
        loss("y:9-[3-2]", 8);
        loss("y:8/2/2", 2);
        loss("y:8/[2/2]", 8);
        loss("y:9/2*2", 8);
        loss("y:7/0+4", 4);
        loss("y:[0-7]/2+5", 2);
        loss("y:7/[0-2]+5", 2);
        loss("y:a>6?1;y:2", 1);
        loss("y:a>7?1;y:2", 2);
        loss("y:a<7?1;y:a<8?3;y:2", 3);
        loss("y:a=7?4;y:5", 4);
        loss("y:a=8?4", 0);
        loss("y:a=8?4;y:a=9?5", 0);
        loss("y:!a=7?1;y:2", 2);
        loss("y:!!a=7?1;y:2", 1);
        loss("y:a=7&n=4?1;y:2", 2);
        loss("y:a=7|n=4?1;y:2", 1);
        loss("y:a=7|n=4&n=5?1;y:2", 1);
        loss("y:(a=7|n=4)&n=5?1;y:2", 2);
        loss("y:n=5&n=4|a=7?1;y:2", 1);
        loss("y:!a=1&n=3?1;y:2", 1);
        loss("y:!(a=1|n=3)?1;y:2", 2);
        loss("y:!a=7|n=3?1;y:2", 1);
        loss("y:1;y:2", 1);
        loss("y:a+1=n+5?1;y:2", 1);
        loss("y:a<8&a=7?1;y:2", 1);
        loss("y:a>6&a=7?1;y:2", 1);
        loss("y:!a<8?1;y:2", 2);
        loss("y:!a>6?1;y:2", 2);
        loss("y:a=7&(a<8|a=1)&!(a>7)?1;y:2", 1);
        loss("y:[[[[[[a]+1]+1]-1]-1]*2]/2", 7);
        loss("y:((((((a=7))))))?1;y:2", 1);
        loss("y:!!!!!!a=7?1;y:2", 1);
        // Within -1,000,000 .. 1,000,000 behind each sign.
        loss("y:9999*9999=1000*1000?1;y:2", 1);
        loss("y:9999*9999-9999*100=100?1;y:2", 1);
        loss("y:[0-9999]*9999+1000*1000=0?1;y:2", 1);
        loss("y:1000*1000+1-1000*1000=0?1;y:2", 1);
        loss("y:1000*1000+1+1-[1000*1000-1]=1?1;y:2", 1);
        loss("y:9999*9999*9999*9999/1000=1000?1;y:2", 1);
        loss("y:0-1000*1000-5+1000*1000=0?1;y:2", 1);
    }

    private static void promise10() {
        FrostBox x = new FrostBox();
        Check.due("10: it is 5", x.habit(5), false);
        Check.due("10: 9", x.habit(9), true);
        Check.due("10: 9 again", x.habit(9), false);
        Check.due("10: 0", x.habit(0), true);
        Check.due("10: 10", x.habit(10), false);
        Check.due("10: -1", x.habit(-1), false);
        Check.due("10: it stays", x.count(9), 0);
        Check.due("10: no act", x.count(14), 0);
    }

    private static void promise11() {
        FrostBox x = Check.house("sr20;k;k;bn4a5");
        Check.due("11: put", x.put(1, 9, false), 2);
        Check.boxes("11: on top", x, 0, 1, 0);
        Check.boxes("11: portions", x, 1, 9, 4);
        Check.boxes("11: age 0", x, 2, 0, 5);
        Check.due("11: no label", x.nameless(), 3);
        Check.due("11: no such kind", x.put(2, 1, true), Check.NONE);
        Check.due("11: kind -1", x.put(-1, 1, true), Check.NONE);
        Check.due("11: 0 portions", x.put(0, 0, true), Check.NONE);
        Check.due("11: -1 portions", x.put(0, -1, true), Check.NONE);
        Check.due("11: no room for 8", x.put(0, 8, true), Check.NONE);
        Check.due("11: refused changes nothing", x.count(1), 2);
        Check.due("11: nor is it an act", x.count(14), 1);
        Check.due("11: room for 7", x.put(0, 7, true), 3);
        Check.due("11: labelled", x.nameless(), 6);
        Check.due("11: full", x.put(0, 1, false), Check.NONE);
        FrostBox y = Check.house("k");
        Check.due("11: 10 portions", y.put(0, 10, false), Check.NONE);
        for (int i = 1; i <= 8; i++) {
            Check.due("11: " + i + " boxes", y.put(0, 1, false), i);
        }
        Check.due("11: a ninth", y.put(0, 1, false), Check.NONE);
        y.take(3);
        Check.due("11: eight again", y.put(0, 1, false), 8);
    }

    private static void promise12() {
        FrostBox x = Check.house("kp2;kp5;kp9o1;bn1;bk1n2;bk2n3a4;bn4");
        Check.due("12: the second", x.take(1), 18);
        Check.boxes("12: the others in order", x, 1, 4, 2, 1);
        Check.boxes("12: their kinds", x, 0, 0, 1, 0);
        Check.due("12: no such box", x.take(3), Check.NONE);
        Check.due("12: box -1", x.take(-1), Check.NONE);
        Check.due("12: acts", x.count(14), 1);
        Check.due("12: the lowest", x.take(2), 2);
        Check.due("12: the top one", x.take(0), 8);
        Check.due("12: the last", x.take(0), 10);
        Check.due("12: none", x.take(0), Check.NONE);
        // The value is by how it lies when it is taken.
        FrostBox y = Check.house("kp9;bn1;bn1;bn1");
        Check.withLaw(y, "y:y");
        Check.due("12: one below", y.take(1), 8);
        Check.due("12: one below still", y.take(0), 8);
        Check.due("12: none below", y.take(0), 9);
    }

    private static void promise13() {
        FrostBox x = Check.house("k;b;bl1;b");
        Check.due("13: has one", x.label(1), false);
        Check.due("13: labelled", x.label(2), true);
        Check.due("13: that one", x.nameless(), 1);
        Check.due("13: again", x.label(2), false);
        Check.due("13: no such box", x.label(3), false);
        Check.due("13: box -1", x.label(-1), false);
        Check.due("13: acts", x.count(14), 1);
        Check.due("13: no house", new FrostBox().label(0), false);
    }

    private static void promise14() {
        FrostBox x = Check.house("k;ba98;ba3");
        Check.due("14: a month", x.months(1), 1);
        Check.boxes("14: ages", x, 2, 4, 99);
        Check.due("14: two more", x.months(2), 3);
        Check.boxes("14: 99 at most", x, 2, 6, 99);
        Check.due("14: each an act", x.count(14), 3);
        Check.due("14: 0", x.months(0), Check.NONE);
        Check.due("14: -1", x.months(-1), Check.NONE);
        Check.due("14: 61", x.months(61), Check.NONE);
        Check.due("14: refused", x.count(6), 3);
        for (int i = 1; i <= 16; i++) {
            Check.due("14: 60 more", x.months(60), 3 + 60 * i);
        }
        Check.due("14: beyond", x.months(37), Check.NONE);
        Check.due("14: none goes by", x.count(6), 963);
        Check.due("14: 999", x.months(36), 999);
        Check.due("14: no more", x.months(1), Check.NONE);
        Check.due("14: nor by years", x.years(1, 1), Check.NONE);
        Check.due("14: 999 still", x.count(6), 999);
        FrostBox y = Check.house("kp9;bn1");
        Check.withLaw(y, "y:m");
        y.months(4);
        Check.due("14: the month in a law", Check.box(y, 0, 4), 5);
    }

    private static void labelsFallOff() {
        FrostBox x = Check.house("sl3;k;bl1;b");
        x.months(1);
        x.label(0);
        x.put(0, 1, true);
        x.months(1);
        Check.due("14: all have theirs", x.nameless(), 0);
        x.months(1);
        Check.due("14: the told one falls off", x.nameless(), 4);
        Check.due("14: put on again", x.label(2), true);
        x.months(1);
        Check.due("14: the others fall off", x.nameless(), 3);
        x.months(1);
        Check.due("14: the last put on stays", x.nameless(), 3);
        x.months(1);
        Check.due("14: till then", x.nameless(), 7);
        FrostBox y = Check.house("sl1;k;bl1");
        y.months(1);
        Check.due("14: one month", y.nameless(), 1);
        FrostBox z = Check.house("k;bl1");
        z.months(5);
        Check.due("14: six are usual", z.nameless(), 0);
        z.off(99);
        Check.due("14: hours are no months", z.nameless(), 0);
        z.months(1);
        Check.due("14: the sixth", z.nameless(), 1);
    }

    private static void promise15() {
        FrostBox x = Check.house("sr20h9;k;bn3a5;bn4a95");
        Check.due("15: it bears 3", x.off(3), 0);
        Check.boxes("15: nothing added", x, 2, 95, 5);
        Check.due("15: an act all the same", x.count(14), 1);
        Check.due("15: one more", x.off(4), 1);
        Check.boxes("15: added", x, 2, 96, 6);
        Check.due("15: five more", x.off(8), 5);
        Check.boxes("15: 99 at most", x, 2, 99, 11);
        Check.due("15: 99", x.off(99), 96);
        Check.due("15: 0", x.off(0), Check.NONE);
        Check.due("15: -1", x.off(-1), Check.NONE);
        Check.due("15: 100", x.off(100), Check.NONE);
        Check.due("15: acts", x.count(14), 4);
        Check.due("15: the month stays", x.count(6), 0);
        Check.due("15: of an empty one", Check.house("sh24;k").off(7), 7);
        Check.due("15: a full one", Check.house("sr9h24;k;bn9").off(24), 0);
        Check.due("15: no hours", Check.house("sr9h0;k;bn9").off(24), 24);
    }

    /** What years do, said once more by calls by hand. */
    private static void promise16() {
        long seed = 20261118L;
        FrostBox x = Check.house("sr25l2;kp4o2;kp9w5;bk1n3;bn2a1");
        FrostBox y = Check.house("sr25l2;kp4o2;kp9w5;bk1n3;bn2a1");
        x.habit(4);
        long s = seed;
        for (int i = 0; i < 12; i++) {
            s = next(s);
            int kind = (int) ((s >>> 33) % 2);
            s = next(s);
            int many = (int) ((s >>> 33) % 9) + 1;
            s = next(s);
            boolean label = (s >>> 33) % 10 < 4;
            y.put(kind, many, label);
            s = next(s);
            if (y.count(1) > 0) {
                y.take((s >>> 33) % 2 == 0 ? 0 : y.count(1) - 1);
            }
            y.months(1);
        }
        Check.due("16: a year", x.years(12, seed), 12);
        for (int what : new int[] {1, 6, 7, 8, 12, 13}) {
            Check.due("16: count " + what, x.count(what), y.count(what));
        }
        for (int what = 0; what < 7; what++) {
            Check.boxes("16: boxes, " + what, x, what, Check.all(y, what));
        }
        Check.due("16: each month one act", x.count(14), 12);
        int eaten = x.count(13);
        Check.due("16: twelve eaten", eaten, 12);
        Check.due("16: a month undone", x.undo(), 11);
        Check.due("16: the month before", x.count(6), 11);
        Check.due("16: its meal is undone", x.count(13), 11);
        Check.due("16: 0", x.years(0, 1), Check.NONE);
        Check.due("16: 61", x.years(61, 1), Check.NONE);
        Check.due("16: -1", x.years(-1, 1), Check.NONE);
        Check.due("16: no house", new FrostBox().years(1, 1), Check.NONE);
        Check.due("16: 60", x.years(60, -7L), 71);
        for (int i = 0; i < 15; i++) {
            x.months(60);
        }
        Check.due("16: beyond 999", x.years(29, 3), Check.NONE);
        Check.due("16: nothing of it", x.count(6), 971);
        Check.due("16: 999", x.years(28, Long.MIN_VALUE), 999);
        // The habit: never, and by a draw each month though nothing be put in.
        FrostBox never = Check.house("sr99l99;k");
        never.habit(0);
        never.years(60, 5);
        Check.due("16: never labelled", never.nameless(), (1 << never.count(1)) - 1);
        for (int habit = 1; habit < 10; habit++) {
            labelled(habit, 77L * habit);
        }
        FrostBox small = Check.house("sr1;k");
        Check.due("16: none to take", small.years(60, 9), 60);
        Check.due("16: few were put in", small.count(13) < 30, true);
        // By hand for seed 0: the first draws are of 1442695040888963407 and on.
        FrostBox z = Check.house("k;k;k");
        z.habit(9);
        z.years(1, 0);
        long one = next(0);
        long two = next(one);
        Check.due("16: kind eaten", z.log(0, 0), (one >>> 33) % 3);
        Check.due("16: portions eaten", z.log(0, 1), (two >>> 33) % 9 + 1);
        Check.due("16: eaten fresh", z.log(0, 2), 0);
    }

    /** What was put in and not eaten by 60 months, by hand: which boxes have labels. */
    private static void labelled(int habit, long seed) {
        String text = "sr99h9l99;kp3o36";
        FrostBox x = Check.house(text);
        FrostBox y = Check.house(text);
        x.habit(habit);
        long s = seed;
        for (int i = 0; i < 60; i++) {
            s = next(next(s));
            int many = (int) ((s >>> 33) % 9) + 1;
            s = next(s);
            y.put(0, many, (s >>> 33) % 10 < habit);
            s = next(s);
            y.take((s >>> 33) % 2 == 0 ? 0 : y.count(1) - 1);
            y.months(1);
            if (i % 7 == 6) {
                FrostBox z = Check.house(text);
                z.habit(habit);
                z.years(i + 1, seed);
                Check.due("16: labels behind " + i + " by habit " + habit, z.nameless(), y.nameless());
            }
        }
        x.years(60, seed);
        Check.due("16: labels by habit " + habit, x.nameless(), y.nameless());
    }

    private static long next(long x) {
        return x * 6364136223846793005L + 1442695040888963407L;
    }

    private static void promise17() {
        FrostBox x = Check.house("sl2;kp9;bn3a1l1;bn1");
        Check.due("17: none", x.undo(), Check.NONE);
        x.put(0, 5, true);
        x.take(2);
        x.label(1);
        x.off(30);
        x.months(2);
        Check.due("17: acts", x.count(14), 6);
        Check.due("17: labels fell off", x.nameless(), 3);
        Check.due("17: a month undone", x.undo(), 5);
        Check.due("17: labels are back", x.nameless(), 0);
        Check.due("17: the month is back", x.count(6), 1);
        Check.due("17: another", x.undo(), 4);
        Check.boxes("17: aged by hours", x, 2, 29, 29);
        Check.due("17: hours undone", x.undo(), 3);
        Check.boxes("17: ages are back", x, 2, 0, 0);
        Check.due("17: label undone", x.undo(), 2);
        Check.due("17: no label", x.nameless(), 2);
        Check.due("17: meal undone", x.undo(), 1);
        Check.boxes("17: the box is back", x, 1, 5, 1, 3);
        Check.due("17: the log is empty", x.count(13), 0);
        Check.due("17: put undone", x.undo(), 0);
        Check.boxes("17: as told", x, 1, 1, 3);
        Check.due("17: no more", x.undo(), Check.NONE);
        // A label is as old as it was when a month is undone.
        x.months(1);
        x.undo();
        x.months(2);
        Check.due("17: it falls off in its month", x.nameless(), 3);
        // The latest 40 alone.
        FrostBox y = Check.house("k;ba1");
        y.months(45);
        Check.due("17: forty", y.count(14), 40);
        Check.due("17: one undone", y.undo(), 39);
        y.off(1);
        y.off(1);
        Check.due("17: forty again", y.count(14), 40);
        for (int left = 39; left >= 0; left--) {
            Check.due("17: still", y.undo(), left);
        }
        Check.due("17: the 41st can't be", y.undo(), Check.NONE);
        Check.due("17: month 6", y.count(6), 6);
        Check.due("17: age then", Check.box(y, 0, 2), 7);
        // Looks, found, laws, habit are no acts.
        FrostBox z = Check.house("k");
        z.peek(0, 0);
        z.found(0, 0, true);
        z.habit(1);
        Check.withLaw(z, "y:1");
        z.image();
        Check.due("17: no acts", z.undo(), Check.NONE);
    }

    private static void promise18() {
        FrostBox x = Check.house("kp9;kp4o5;bn2a3;bk1n6a6;bk1n3a14;bn1");
        x.take(0);
        x.take(1);
        x.months(1);
        x.take(0);
        int[][] log = {{1, 3, 15, 0}, {1, 6, 6, 18}, {0, 1, 0, 9}};
        for (int i = 0; i < 3; i++) {
            for (int what = 0; what < 4; what++) {
                Check.due("18: log(" + i + ", " + what + ")", x.log(i, what), log[i][what]);
            }
        }
        Check.due("18: log(3)", x.log(3, 0), Check.NONE);
        Check.due("18: log(-1)", x.log(-1, 0), Check.NONE);
        Check.due("18: what 4", x.log(0, 4), Check.NONE);
        Check.due("18: what -1", x.log(0, -1), Check.NONE);
        Check.due("18: length", x.count(13), 3);
        Check.due("18: in all", x.count(12), 27);
        x.undo();
        Check.due("18: undone", x.log(0, 1), 6);
        Check.due("18: in all then", x.count(12), 27);
        x.undo();
        x.undo();
        Check.due("18: one left", x.count(13), 1);
        Check.due("18: that", x.log(0, 3), 9);
        // The latest 60: box i has i % 9 + 1 portions.
        FrostBox y = Check.house("kp1o36");
        for (int i = 0; i < 64; i++) {
            y.put(0, i % 9 + 1, false);
            y.take(0);
        }
        Check.due("18: sixty", y.count(13), 60);
        Check.due("18: the latest", y.log(0, 1), 63 % 9 + 1);
        Check.due("18: the earliest", y.log(59, 1), 4 % 9 + 1);
        Check.due("18: no 61st", y.log(60, 1), Check.NONE);
        int sum = 0;
        for (int i = 4; i < 64; i++) {
            sum += i % 9 + 1;
        }
        Check.due("18: in all sixty", y.count(12), sum);
        // As it was ahead of the meal that is undone.
        y.undo();
        Check.due("18: sixty as they were", y.count(13), 60);
        Check.due("18: the latest then", y.log(0, 1), 62 % 9 + 1);
        Check.due("18: the earliest then", y.log(59, 1), 3 % 9 + 1);
        y.image();
        for (int i = 0; i < 60; i++) {
            y.put(0, 1, false);
            y.take(0);
        }
        y.back();
        for (int i = 0; i < 60; i++) {
            Check.due("46: the log as it was, " + i, y.log(i, 1), (62 - i) % 9 + 1);
            Check.due("46: and its values, " + i, y.log(i, 3), (62 - i) % 9 + 1);
        }
    }
}
