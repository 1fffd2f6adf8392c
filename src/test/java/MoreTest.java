/** Promises 38 to 47: more of the boxes, images, counts. */
public final class MoreTest {
    public static void main(String[] args) {
        promise38();
        promise39();
        promise40();
        promise41();
        promise42();
        promise43();
        promise44();
        promises45And46();
        promise47();
        Check.finish("MoreTest");
    }

    private static void promise38() {
        FrostBox x = Check.house("kp3o36;ba7n3;ba9n2;ba9n5;ba2n5");
        Check.due("38: the upper of the oldest", x.most(0), 1);
        Check.due("38: the upper of the dearest", x.most(1), 0);
        Check.due("38: what 2", x.most(2), Check.NONE);
        Check.due("38: what -1", x.most(-1), Check.NONE);
        Check.due("38: no box", Check.house("k").most(0), Check.NONE);
        Check.due("38: no dearest", Check.house("k").most(1), Check.NONE);
        Check.due("38: all of no value", Check.house("kp0;b;b").most(1), 0);
        Check.due("38: all fresh", Check.house("k;b;b").most(0), 0);
        Check.due("38: the lowest", Check.house("k;ba2;ba1;b").most(0), 2);
        Check.due("38: value, not portions", Check.house("kp9;kp1;bn2;bk1n9").most(1), 1);
    }

    private static void promise39() {
        FrostBox x = Check.house("kp3o1;kp0;ba4;ba3;bk1;b");
        Check.due("39: as bits", x.spoilt(), 2 + 8);
        x.months(1);
        Check.due("39: a month later", x.spoilt(), 2 + 4 + 8);
        Check.due("39: the top one, too", Check.house("kp0;b").spoilt(), 1);
        Check.due("39: no boxes", Check.house("k").spoilt(), 0);
        Check.due("39: no house", new FrostBox().spoilt(), Check.NONE);
    }

    private static void promise40() {
        FrostBox x = Check.house("k;bn1;bn2;bn4;bn8");
        int[] above = {0, 8, 12, 14};
        for (int i = 0; i < 4; i++) {
            Check.due("40: buried(" + i + ")", x.buried(i), above[i]);
        }
        Check.due("40: no such box", x.buried(4), Check.NONE);
        Check.due("40: box -1", x.buried(-1), Check.NONE);
        Check.due("40: no house", new FrostBox().buried(0), Check.NONE);
    }

    private static void promise41() {
        FrostBox x = Check.house("kg2;k;kg3;kg3;kg0;k");
        int[] bits = {1 + 4 + 16, 2, 1 + 4 + 8, 4 + 8, 1 + 16, 32};
        for (int i = 0; i < 6; i++) {
            Check.due("41: goes(" + i + ")", x.goes(i), bits[i]);
        }
        Check.due("41: no such kind", x.goes(6), Check.NONE);
        Check.due("41: kind -1", x.goes(-1), Check.NONE);
        Check.due("41: no house", new FrostBox().goes(0), Check.NONE);
    }

    private static void promise42() {
        FrostBox x = Check.house("kp3o5;kp9;kp0;ba2;ba8;bk1;bk2");
        Check.due("42: of no worth", x.soonest(0), 0);
        Check.due("42: nine behind twelve", x.soonest(1), 21);
        Check.due("42: now", x.soonest(2), 0);
        Check.due("42: three behind five, two are gone", x.soonest(3), 6);
        Check.due("42: no such box", x.soonest(4), Check.NONE);
        Check.due("42: box -1", x.soonest(-1), Check.NONE);
        Check.due("42: no house", new FrostBox().soonest(0), Check.NONE);
        FrostBox y = Check.house("kp2;b;ba99;ba5");
        Check.withLaw(y, "y:a>98?2;y:0");
        Check.due("42: 99 months", y.soonest(2), 99);
        Check.due("42: as old as can be", y.soonest(1), 0);
        Check.due("42: 94", y.soonest(0), 94);
        Check.withLaw(y, "y:m>99?9");
        Check.due("42: not within 99", y.soonest(2), Check.NONE);
        y.months(1);
        Check.due("42: 99 from month 1", y.soonest(2), 99);
        Check.withLaw(y, "y:y*2");
        Check.due("42: the lowest never", y.soonest(2), Check.NONE);
        Check.due("42: one that lies on it", y.soonest(1), 0);
    }

    private static void promise43() {
        FrostBox x = Check.house("kp5o2;kp9;bn2a1;bk1n3a11;bn1");
        int[] values = {10 + 27 + 5, 10 + 27 + 5, 8 + 24 + 5, 6 + 21 + 4};
        for (int i = 0; i < 4; i++) {
            Check.due("43: monthly(" + i + ")", x.monthly(i), values[i]);
        }
        Check.due("43: 60", x.monthly(60), 0);
        Check.due("43: 61", x.monthly(61), Check.NONE);
        Check.due("43: -1", x.monthly(-1), Check.NONE);
        Check.due("43: no months go by", x.count(6), 0);
        Check.due("43: no boxes", Check.house("k").monthly(5), 0);
        FrostBox y = Check.house("kp9;bn1;bn1a98");
        Check.withLaw(y, "y:m");
        Check.due("43: the month then", y.monthly(4), 10);
        Check.withLaw(y, "y:a-95");
        Check.due("43: ages 99 at most", y.monthly(7), 9 + 5);
        for (int i = 0; i < 16; i++) {
            y.months(60);
        }
        y.months(39);
        Check.withLaw(y, "y:m-1000");
        Check.due("43: behind month 999", y.monthly(5), 5 + 5);
    }

    private static void promise44() {
        FrostBox x = Check.house("sr1;kw4;kw9;kw1");
        Check.due("44: one", x.make(0, 4), 1);
        Check.due("44: nine", x.make(0, 36), 9);
        Check.due("44: ten can't be", x.make(0, 40), Check.NONE);
        Check.due("44: 6 by 4", x.make(0, 6), Check.NONE);
        Check.due("44: 3 by 4", x.make(0, 3), Check.NONE);
        Check.due("44: 81", x.make(1, 81), 9);
        Check.due("44: 82", x.make(1, 82), Check.NONE);
        Check.due("44: 90", x.make(1, 90), Check.NONE);
        Check.due("44: 1", x.make(2, 1), 1);
        Check.due("44: 0", x.make(2, 0), Check.NONE);
        Check.due("44: -4", x.make(0, -4), Check.NONE);
        Check.due("44: no such kind", x.make(3, 1), Check.NONE);
        Check.due("44: kind -1", x.make(-1, 1), Check.NONE);
        Check.due("44: no house", new FrostBox().make(0, 3), Check.NONE);
    }

    private static void promises45And46() {
        FrostBox x = Check.house("sl4;kp9;bn2l1;bn3a5");
        Check.due("46: no image", x.back(), Check.NONE);
        x.months(2);
        x.take(1);
        Check.due("45: the month", x.image(), 2);
        Check.due("45: no act", x.count(14), 3);
        x.label(0);
        x.months(3);
        x.take(0);
        x.put(0, 9, false);
        x.habit(2);
        x.peek(0, 0);
        Check.due("46: back", x.back(), 2);
        Check.boxes("46: boxes", x, 1, 3);
        Check.boxes("46: ages", x, 2, 7);
        Check.due("46: no label", x.nameless(), 1);
        Check.due("46: month", x.count(6), 2);
        Check.due("46: log", x.count(13), 1);
        Check.due("46: the meal", x.log(0, 1), 2);
        Check.due("46: nothing to undo", x.undo(), Check.NONE);
        Check.due("46: habit stays", x.count(9), 2);
        Check.due("46: looks stay", x.count(10), 1);
        x.put(0, 1, false);
        Check.due("46: acts from then on", x.count(14), 1);
        Check.due("46: back once more", x.back(), 2);
        Check.due("46: as it was", x.count(1), 1);
        x.months(1);
        Check.due("45: another instead", x.image(), 3);
        x.months(4);
        Check.due("46: that", x.back(), 3);
        Check.due("46: no act of its own", x.count(14), 0);
        // Undone acts leave the image; the label is as old as it was.
        FrostBox y = Check.house("sl3;k;b");
        y.label(0);
        y.months(2);
        y.image();
        y.months(1);
        Check.due("46: fell off", y.nameless(), 1);
        y.back();
        Check.due("46: is on again", y.nameless(), 0);
        y.months(1);
        Check.due("46: falls off again", y.nameless(), 1);
        // A long log, and much that is eaten behind the image.
        FrostBox w = Check.house("sr99;kp9o1;kp5");
        w.years(60, 11);
        w.years(60, 12);
        w.image();
        int[] log = new int[240];
        for (int i = 0; i < 240; i++) {
            log[i] = w.log(i / 4, i % 4);
        }
        int eaten = w.count(12);
        w.years(60, 13);
        w.years(60, 14);
        Check.due("46: month 120", w.back(), 120);
        Check.due("46: all eaten", w.count(12), eaten);
        for (int i = 0; i < 240; i++) {
            Check.due("46: log " + i, w.log(i / 4, i % 4), log[i]);
        }
        // An image of an empty log.
        FrostBox z = Check.house("k;b;b");
        z.image();
        z.take(0);
        z.take(0);
        Check.due("46: month 0", z.back(), 0);
        Check.due("46: an empty log", z.count(13), 0);
        Check.due("46: both are there", z.count(1), 2);
        z.text(0);
        Check.due("46: a refused text leaves it", z.back(), 0);
        Check.tell(z, 0, "k");
        Check.due("46: no image of this house", z.back(), Check.NONE);
        Check.due("45: no house", new FrostBox().image(), Check.NONE);
        Check.due("46: no house", new FrostBox().back(), Check.NONE);
    }

    private static void promise47() {
        FrostBox x = Check.house("kp5;kp2;kp7;bn3;bk1n4;bk2n1;bn2a14");
        Check.withLaw(x, "y:a/2");
        Check.tell(x, 1, "y:1");
        Check.tell(x, 2, "m1");
        Check.tape(x, "abcde");
        x.habit(8);
        x.months(3);
        x.take(3);
        x.take(0);
        x.peek(0, 1);
        x.peek(0, 2);
        x.found(0, 0, true);
        // Left: four of worth 2 and one of worth 7, a month's loss each; eaten: 3 of 4 and 2 of 5 less 8.
        int[] counts = {3, 2, 2, 1, 5, 0, 3, 5, 4 + 6, 8, 2, 1, 12, 2, 5};
        for (int i = 0; i < counts.length; i++) {
            Check.due("47: count(" + i + ")", x.count(i), counts[i]);
        }
        Check.tape(x, "y:m");
        Check.due("47: a third law", x.text(1), 2);
        x.law(2);
        Check.due("47: value by the month now", x.count(8), 0 + 4);
        Check.due("47: count(15)", x.count(15), Check.HIDDEN);
        Check.due("47: count(-1)", x.count(-1), Check.HIDDEN);
        Check.due("47: count(1000)", x.count(1000), Check.HIDDEN);
    }
}
