/** Promises 27 to 37: what one sees, looks, what was found, lots, labellers. */
public final class LooksTest {
    public static void main(String[] args) {
        promise27();
        promise28();
        promise29();
        promise30();
        promise31();
        promise32();
        promise33();
        promise34();
        promise35();
        promises36And37();
        Check.finish("LooksTest");
    }

    private static void promise27() {
        FrostBox x = Check.house("kc1w2;kc1w4;kc2w2;bk0n4l1;bk1n2;bk2n3;bk0n1;bk1n5l1;bk1n9");
        // Without labels there are: kind 1 of 8 and 36, kind 2 of 6, kind 0 of 2.
        Check.due("27: at least, 0", x.spans(0, 0), 4);
        Check.due("27: at most, 0: 8 and 2, not 36", x.spans(0, 1), 4 + 4 + 1);
        Check.due("27: at least, 1", x.spans(1, 0), 5);
        Check.due("27: at most, 1: 8 and 36, not 2", x.spans(1, 1), 5 + 2 + 9);
        Check.due("27: at least, 2", x.spans(2, 0), 0);
        Check.due("27: at most, 2: its colour alone", x.spans(2, 1), 3);
        Check.due("27: no such kind", x.spans(3, 0), Check.NONE);
        Check.due("27: kind -1", x.spans(-1, 0), Check.NONE);
        Check.due("27: what 2", x.spans(0, 2), Check.NONE);
        Check.due("27: what -1", x.spans(0, -1), Check.NONE);
        Check.due("27: no house", new FrostBox().spans(0, 0), Check.NONE);
        FrostBox y = Check.house("kw1;kw9;kw3;bk2n3;bk2n4");
        Check.due("27: nine of one, not twelve", y.spans(0, 1), 9);
        Check.due("27: one of nine", y.spans(1, 1), 1);
    }

    private static void promise28() {
        FrostBox x = Check.house("k;b;bl1;b;bl0");
        Check.due("28: as bits", x.nameless(), 1 + 2 + 8);
        Check.due("28: no boxes", Check.house("k").nameless(), 0);
        x.put(0, 1, true);
        Check.due("28: a labelled one on top", x.nameless(), 2 * 11);
        Check.due("28: no house", new FrostBox().nameless(), Check.NONE);
    }

    private static void promise29() {
        FrostBox x = Check.house("kc1w2;kc1w4;kc2w4;bk1n2;bk0n4;bk2n2;bk0n4l1;bk1n2;bk0n3");
        // Places: 0 weighs 6, 1 is 8, 2 is 8 with a label, 3 is 8 of another colour, 4 and 5 are 8.
        Check.due("29: three", x.doubles(-1), 3);
        Check.due("29: rising", x.doubles(0), 14);
        Check.due("29: the next", x.doubles(1), 15);
        Check.due("29: the last", x.doubles(2), 45);
        Check.due("29: no more", x.doubles(3), Check.NONE);
        Check.due("29: i -2", x.doubles(-2), Check.NONE);
        Check.due("29: none", Check.house("k;b").doubles(-1), 0);
        Check.due("29: none of none", Check.house("k").doubles(0), Check.NONE);
        Check.due("29: no house", new FrostBox().doubles(-1), Check.NONE);
        Check.due("29: eight alike", Check.house("k;b;b;b;b;b;b;b;b").doubles(-1), 28);
        Check.due("29: the 28th", Check.house("k;b;b;b;b;b;b;b;b").doubles(27), 67);
        Check.due("29: the upper first", Check.house("k;b;b").doubles(0), 1);
    }

    private static void promise30() {
        FrostBox x = Check.house("k");
        Check.due("30: no such sort", x.peek(2, 1), Check.NONE);
        Check.due("30: sort -1", x.peek(-1, 1), Check.NONE);
        Check.due("30: colour -1", x.peek(0, -1), Check.NONE);
        Check.due("30: colour 6", x.peek(0, 6), Check.NONE);
        Check.due("30: weight 0", x.peek(1, 0), Check.NONE);
        Check.due("30: weight 10", x.peek(1, 10), Check.NONE);
        Check.due("30: none yet", x.count(10), 0);
        int[][] good = {{0, 0}, {0, 5}, {1, 1}, {1, 9}};
        for (int i = 0; i < 12; i++) {
            Check.due("30: look", x.peek(good[i % 4][0], good[i % 4][1]), i + 1);
        }
        Check.due("30: a thirteenth", x.peek(0, 0), Check.NONE);
        Check.due("30: twelve", x.count(10), 12);
        Check.due("30: no house", new FrostBox().peek(0, 0), Check.NONE);
    }

    private static void what(String call, FrostBox x, int kind, int sure, int look) {
        Check.due(call + ": what", x.what(0), kind);
        Check.due(call + ": sure", x.what(1), sure);
        Check.due(call + ": look", x.what(2), look);
    }

    private static void promise31() {
        FrostBox x = Check.house("se2;kc1w2;kc1w4;kc2w4;kc1w5");
        what("31: no looks", x, 0, 250, 1);
        x.peek(0, 2);
        // 2, 2, 8, 2: by colour 6 and 8, by weight 2, 10, 2.
        what("31: a colour", x, 2, 571, 0);
        x.peek(1, 2);
        // 16, 4, 16, 4: by colour 24 and 16, by weight 16, 20, 4.
        what("31: of several the lowest", x, 0, 400, 1);
        x.peek(1, 5);
        // 32, 8, 32, 32
        what("31: three alike", x, 0, 307, 1);
        Check.due("31: what 3", x.what(3), Check.NONE);
        Check.due("31: what -1", x.what(-1), Check.NONE);
        Check.due("31: no house", new FrostBox().what(0), Check.NONE);
        // Looks that are never wrong.
        FrostBox y = Check.house("se0;kc1;kc2");
        y.peek(0, 2);
        what("31: never wrong", y, 1, 1000, 0);
        y.peek(0, 1);
        what("31: none is held", y, 0, 0, 0);
        // Alike 0, and that by which fewer are alike.
        what("31: alike", Check.house("k;k"), 0, 500, 0);
        what("31: one kind", Check.house("k"), 0, 1000, 0);
        FrostBox first = Check.house("kc1w1;kc2w2;kc2w3");
        first.peek(0, 1);
        what("31: the first alone in both", first, 0, 818, 0);
        what("31: colours tell", Check.house("kc1;kc2"), 0, 500, 0);
        what("31: weights tell", Check.house("kw1;kw2"), 0, 500, 1);
        // Twelve looks of nine of ten.
        FrostBox z = Check.house("kc1;kc2");
        for (int i = 0; i < 12; i++) {
            z.peek(0, 2);
        }
        what("31: twelve looks", z, 1, 999, 0);
        FrostBox half = Check.house("se5;kc1;kc2;kc3");
        half.peek(0, 3);
        what("31: half of them wrong", half, 0, 333, 0);
    }

    private static void promise32() {
        FrostBox x = Check.house("k;k");
        Check.due("32: box 6", x.found(6, 0, true), Check.NONE);
        Check.due("32: box -1", x.found(-1, 0, true), Check.NONE);
        Check.due("32: kind 2", x.found(0, 2, true), Check.NONE);
        Check.due("32: kind -1", x.found(0, -1, true), Check.NONE);
        for (int i = 1; i <= 10; i++) {
            Check.due("32: found", x.found(i % 6, i % 2, i % 3 == 0), i);
        }
        Check.due("32: an eleventh", x.found(0, 0, true), Check.NONE);
        Check.due("32: ten", x.count(11), 10);
        Check.due("32: no house", new FrostBox().found(0, 0, true), Check.NONE);
    }

    private static void promise33() {
        FrostBox x = Check.house("k;k;k");
        Check.due("33: 6 of one", x.history(600000, -1), 1);
        Check.due("33: 6 of the last", x.history(6000, 0), 222222);
        Check.due("33: 4 and 2", x.history(420000, -1), 15);
        Check.due("33: the first", x.history(420000, 0), 11);
        Check.due("33: the second", x.history(420000, 1), 101);
        Check.due("33: the last", x.history(420000, 14), 110000);
        Check.due("33: no more", x.history(420000, 15), Check.NONE);
        Check.due("33: i -2", x.history(420000, -2), Check.NONE);
        Check.due("33: 2, 2, 2", x.history(222000, -1), 90);
        Check.due("33: its 90th", x.history(222000, 89), 221100);
        Check.due("33: a kind not told", x.history(500100, -1), Check.NONE);
        Check.due("33: sum 5", x.history(500000, -1), Check.NONE);
        Check.due("33: sum 7", x.history(610000, -1), Check.NONE);
        Check.due("33: sum 24 of a kind", x.history(999000, -1), Check.NONE);
        Check.due("33: seven digits", x.history(1500000, -1), Check.NONE);
        Check.due("33: below 0", x.history(-600000, -1), Check.NONE);
        Check.due("33: no house", new FrostBox().history(600000, -1), Check.NONE);
        FrostBox six = Check.house("k;k;k;k;k;k");
        Check.due("33: one of each", six.history(111111, -1), 720);
        Check.due("33: the least", six.history(111111, 0), 12345);
        Check.due("33: the greatest", six.history(111111, 719), 543210);
        Check.due("33: six of kind 5", six.history(6, 0), 555555);
        // By what was found.
        x.found(0, 1, true);
        Check.due("33: box 0 had 1", x.history(420000, -1), 5);
        Check.due("33: the first then", x.history(420000, 0), 100001);
        x.found(5, 1, false);
        Check.due("33: box 5 had not", x.history(420000, -1), 4);
        Check.due("33: the first of them", x.history(420000, 0), 100010);
        Check.due("33: it fits none", x.history(600000, -1), 0);
        Check.due("33: none of none", x.history(600000, 0), Check.NONE);
        x.found(0, 1, true);
        Check.due("33: said twice", x.history(420000, -1), 4);
        x.found(0, 1, false);
        Check.due("33: both can't be", x.history(420000, -1), 0);
    }

    private static void promise34() {
        FrostBox x = Check.house("k;k;k");
        Check.due("34: all", x.share(60000), 63);
        Check.due("34: none", x.share(420000), 0);
        x.found(0, 1, true);
        Check.due("34: the one found", x.share(420000), 1);
        Check.due("34: and so all others", x.share(510000), 63);
        x.found(1, 1, false);
        x.found(2, 1, false);
        x.found(3, 1, false);
        x.found(4, 1, false);
        Check.due("34: the last as well", x.share(420000), 63);
        Check.due("34: the 2 may be in any other", x.share(411000), 1);
        Check.due("34: no row", x.share(330000), Check.NONE);
        Check.due("34: a kind not told", x.share(500100), Check.NONE);
        Check.due("34: sum 5", x.share(500000), Check.NONE);
        Check.due("34: below 0", x.share(-1), Check.NONE);
        Check.due("34: seven digits", x.share(1500000), Check.NONE);
        Check.due("34: no house", new FrostBox().share(600000), Check.NONE);
        FrostBox six = Check.house("k;k;k;k;k;k");
        Check.due("34: of 720 rows none", six.share(111111), 0);
        for (int i = 0; i < 5; i++) {
            six.found(i, 5 - i, true);
        }
        Check.due("34: the last row alone", six.share(111111), 63);
        Check.due("33: it alone", six.history(111111, -1), 1);
        Check.due("33: that", six.history(111111, 0), 543210);
    }

    private static void promise35() {
        FrostBox x = Check.house("kp1;bn1;bn5;bn2;bn4");
        // Threes of 1 5 2, 1 5 4, 1 2 4, 5 2 4.
        Check.due("35: sum", x.lot(0), 5 + 5 + 4 + 5);
        Check.due("35: threes", x.lot(1), 4);
        Check.due("35: what 2", x.lot(2), Check.NONE);
        Check.due("35: what -1", x.lot(-1), Check.NONE);
        FrostBox two = Check.house("k;b;b");
        Check.due("35: of two none", two.lot(0), 0);
        Check.due("35: no threes", two.lot(1), 0);
        Check.due("35: of eight", Check.house("k;b;b;b;b;b;b;b;b").lot(1), 56);
        Check.due("35: by value, not portions", Check.house("kp1;kp9;bn5;bk1n1;bn3").lot(0), 9);
    }

    private static void promises36And37() {
        int[][] has = {{0, 0, -3, -3}, {0, 2, -1, -1}, {0, 4, 1, 1}, {0, 6, 3, 3}};
        int[][] rests = {{0}, {0}, {1, 10}, {1, 10}};
        for (int without = 0; without < 4; without++) {
            StringBuilder text = new StringBuilder("k;bl1");
            for (int i = 0; i < without; i++) {
                text.append(";b");
            }
            FrostBox x = Check.house(text.toString());
            for (int pair = 0; pair < 4; pair++) {
                Check.due("36: of " + without + ", " + pair, x.labels(pair / 2, pair % 2), has[without][pair]);
            }
            Check.due("37: of " + without, x.rests(-1), rests[without].length);
            for (int i = 0; i < rests[without].length; i++) {
                Check.due("37: of " + without + ", " + i, x.rests(i), rests[without][i]);
            }
            Check.due("37: no more", x.rests(rests[without].length), Check.NONE);
            Check.due("37: i -2", x.rests(-2), Check.NONE);
            Check.due("36: x 2", x.labels(2, 0), Check.HIDDEN);
            Check.due("36: x -1", x.labels(-1, 0), Check.HIDDEN);
            Check.due("36: y 2", x.labels(0, 2), Check.HIDDEN);
            Check.due("36: y -1", x.labels(0, -1), Check.HIDDEN);
        }
        Check.due("37: no house", new FrostBox().rests(-1), Check.NONE);
        Check.due("36: no house", new FrostBox().labels(1, 1), Check.HIDDEN);
    }
}
