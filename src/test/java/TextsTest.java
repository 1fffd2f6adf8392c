/** Promises 1 to 5 and 19: a new object, the tape, faults, texts, steps. */
public final class TextsTest {
    public static void main(String[] args) {
        promise1();
        promise2();
        promise3();
        promise4Houses();
        promise4Laws();
        promise4Plans();
        promise5();
        promise5NewHouse();
        promise19();
        Check.finish("TextsTest");
    }

    private static void promise1() {
        FrostBox x = new FrostBox();
        int[] counts = {0, 0, 0, 0, 0, -1, 0, 0, 0, 5, 0, 0, 0, 0, 0};
        for (int i = 0; i < counts.length; i++) {
            Check.due("1: count(" + i + ")", x.count(i), counts[i]);
        }
        Check.due("1: rule", x.rule(0), Check.NONE);
        Check.due("1: kind", x.kind(0, 0), Check.NONE);
        Check.due("1: box", Check.box(x, 0, 0), Check.THROWN);
        Check.due("1: nameless", x.nameless(), Check.NONE);
        Check.due("1: labels", x.labels(0, 0), Check.HIDDEN);
        Check.due("1: back", x.back(), Check.NONE);
        Check.due("1: image", x.image(), Check.NONE);
        Check.due("1: off", x.off(1), Check.NONE);
        Check.due("1: eat", x.eat(1), Check.NONE);
        Check.due("1: monthly", x.monthly(0), Check.NONE);
        Check.due("1: lot", x.lot(1), Check.NONE);
        Check.due("1: spoilt", x.spoilt(), Check.NONE);
        Check.due("1: most", x.most(1), Check.NONE);
        Check.due("1: costs", x.costs(1), Check.NONE);
        Check.due("1: fault", x.fault(0), 0);
        Check.due("1: text", x.text(0), Check.NONE);
        // Laws, plans and the habit need no house.
        Check.due("1: law text", Check.tell(x, 1, "y:1"), 0);
        Check.due("1: plan text", Check.tell(x, 2, "t0"), 0);
        Check.due("1: law", x.law(0), true);
        Check.due("1: habit", x.habit(3), true);
        Check.due("1: run", x.run(0, 0), Check.HIDDEN);
        Check.due("1: perform", x.perform(0), Check.NONE);
        Check.due("1: step", x.step(0, 0, 0), 1);
        // Two objects know nothing of one another.
        FrostBox y = new FrostBox();
        Check.due("1: laws of another", y.count(2), 0);
        Check.due("1: habit of another", y.count(9), 5);
    }

    private static void promise2() {
        FrostBox x = new FrostBox();
        Check.due("2: highest first", x.feed(0x6b63316f, 0x39000000, 0, 0, 0), 5);
        Check.due("2: reads as k c1 o9", x.text(0), 1);
        Check.due("2: colour", x.kind(0, 0), 1);
        Check.due("2: keeps", x.kind(0, 2), 9);
        Check.due("2: zeros are left out", x.feed(0x006b0000, 0, 0x00770035, 0, 0), 3);
        Check.due("2: kw5", x.text(0), 1);
        Check.due("2: weight 5", x.kind(0, 1), 5);
        Check.due("2: all zeros", x.feed(0, 0, 0, 0, 0), 0);
        Check.due("2: signs above 127 stay", x.feed(0x80ffe901, 0, 0, 0, -1), 8);
        x.end(0);
        for (int i = 1; i <= 12; i++) {
            Check.due("2: twenty more", x.feed(0x20202020, 0x20202020, 0x20202020, 0x20202020, 0x20202020), 20 * i);
        }
        Check.due("2: 241", x.feed(0x20000000, 0, 0, 0, 0), Check.NONE);
        Check.due("2: nothing more at 240", x.feed(0, 0, 0, 0, 0), 240);
        x.end(239);
        Check.due("2: 241 by two", x.feed(0x20200000, 0, 0, 0, 0), Check.NONE);
        Check.due("2: refused changes nothing", x.count(4), 239);
        Check.due("2: 240", x.feed(0, 0, 0, 0, 0x20), 240);
        // Each byte of each number is counted before any is taken.
        for (int i = 0; i < 20; i++) {
            int[] words = new int[5];
            words[i / 4] = 1 << 8 * (i % 4);
            Check.due("2: one byte at " + i, x.feed(words[0], words[1], words[2], words[3], words[4]), Check.NONE);
            x.end(239);
            int last = x.feed(words[0], words[1], words[2], words[3], words[4]);
            Check.due("2: the 240th at " + i, last, 240);
        }
        x.end(200);
        Check.due("2: sixty at a time can't be", x.feed(-1, -1, -1, -1, -1), 220);
        Check.due("2: twenty more", x.feed(-1, -1, -1, -1, -1), 240);
    }

    private static void promise3() {
        FrostBox x = new FrostBox();
        Check.due("3: end(0) of none", x.end(0), true);
        Check.due("3: end(1) of none", x.end(1), false);
        Check.tape(x, "k;kx");
        Check.due("3: end(-1)", x.end(-1), false);
        Check.due("3: end(5)", x.end(5), false);
        Check.due("3: it stays", x.count(4), 4);
        Check.due("3: end(4)", x.end(4), true);
        Check.due("3: end(3)", x.end(3), true);
        Check.due("3: first bytes alone", x.count(4), 3);
        Check.due("3: end(4) again", x.end(4), false);
        Check.due("3: k;k", x.text(0), 2);
    }

    private static void promise4Houses() {
        String[] right = {"k", " k ", "k;s", "s;k", "b;k", "k c 1 w 2", "kg6", "kg0", "kg1;k", "sr2;k;b", "b k 1;k;k",
            "kw05", "kp00", "sr09;k", "sr99h24l99e5;kc5w9o36p9g6;bk0n9a99l1", "sr1h0l1e0;kc0w1o1p0g0;bk0n1a00l0",
            "k;k;k;k;k;k;s", "k;b;b;b;b;b;b;b;b", "kg5;k;k;k;k;k;bk5", "sr72;k;bn9;bn9;bn9;bn9;bn9;bn9;bn9;bn9",
            "b;s;k", "sr4;b;b;k"};
        for (String text : right) {
            Check.faults(0, text, Check.NONE);
        }
        // Too early an end, and what only the end shows.
        String[] early = {"", "  ", "s", "b", "k;", "s;", "kc", "kc ", "sr", "kg1", "k;kg2", "k;bk1", "b;b;bk2;k;k",
            "sr1;k;b", "sr9;k;bn9;bn1", "k;bn9;bn9;bn9;bn9;bn5", "b;b;b;b;b;b;b;b;s", "kg5;k;k;k;k", "sr1;k;b  ",
            "k;bk1;s", "kg1;b"};
        for (String text : early) {
            Check.faults(0, text, text.length());
        }
        Check.faults(0, "x", 0);
        Check.faults(0, " x", 1);
        Check.faults(0, ";k", 0);
        Check.faults(0, "K", 0);
        Check.faults(0, "k\u00e9", 1);
        Check.faults(0, "k\u0080", 1);
        Check.faults(0, "k,k", 1);
        Check.faults(0, "kk", 1);
        Check.faults(0, "k;;k", 2);
        // Bounds, at the last digit.
        String[] beyond = {"sr0", "sr00", "sh25", "sl0", "sl00", "se6", "se10", "kc6", "kc10", "kw0", "kw00", "kw10",
            "ko0", "ko37", "ko99", "kp10", "kg7", "kg16", "bk6", "bk10", "bn0", "bn10", "bl2", "bl11"};
        for (String text : beyond) {
            Check.faults(0, text, text.length() - 1);
            Check.faults(0, text + ";k", text.length() - 1);
            Check.faults(0, text + " 1", text.length() - 1);
        }
        // A third digit itself, whatever stands ahead of it.
        String[] third = {"sr100", "sr001", "sr000", "sh240", "kw100", "kc999", "ba100", "ba000", "bn012"};
        for (String text : third) {
            Check.faults(0, text, text.length() - 1);
            Check.faults(0, text + "4", text.length() - 1);
        }
        Check.faults(0, "kc1 2", 4);
        Check.faults(0, "sr3 0;k", 4);
        Check.faults(0, "ba9 9", 4);
        // Letters that were there, or belong to others.
        Check.faults(0, "kc1c1", 3);
        Check.faults(0, "sr9h1r9", 5);
        Check.faults(0, "bk0n1k0", 5);
        Check.faults(0, "bl1l1", 3);
        Check.faults(0, "kn1", 1);
        Check.faults(0, "kk0", 1);
        Check.faults(0, "sw1", 1);
        Check.faults(0, "bc1", 1);
        Check.faults(0, "kc1;kc1", Check.NONE);
        // One s, six k, eight b.
        Check.faults(0, "s;k;s", 4);
        Check.faults(0, "s; s", 3);
        Check.faults(0, "k;k;k;k;k;k;k", 12);
        Check.faults(0, "k;b;b;b;b;b;b;b;b;b", 18);
        FrostBox x = new FrostBox();
        Check.due("4: fault(-1)", x.fault(-1), -2);
        Check.due("4: fault(3)", x.fault(3), -2);
        Check.tape(x, "k");
        Check.due("4: as a house", x.fault(0), Check.NONE);
        Check.due("4: as a law", x.fault(1), 0);
        Check.due("4: as a plan", x.fault(2), 0);
        Check.due("4: tells nothing", x.count(0), 0);
    }

    private static void promise4Laws() {
        String[] right = {"y:1", " y : a ", "y:9999", "y:0000", "y:a=1?2", "y:a+o-n*y/k+m", "y:[a]", "y:[[[[[[a]]]]]]",
            "y:!a=1?1", "y:!!!!!!a=1?1", "y:((((((a=1))))))?1", "y:(!(!([a]=1)))?1", "y:a=1&o<2|n>3?1;y:2", "y:1;y:2",
            "y:a=1?1;y:(a=2|a=3)&!(a=4)?[1+2]*3", "y : ! ( a < 1 ) & [ 2 ] = 2 ? 1", "y:[a]=1?1", "y:[[[[[[1]]]]]]=1?2",
            "y:!!!a=1&!!!!!!a=2?1", "y:[1]+[[[[[[2]]]]]]"};
        for (String text : right) {
            Check.faults(1, text, Check.NONE);
        }
        String[] early = {"", " ", "y", "y:", "y:a+", "y:a=", "y:a=1", "y:a=1&", "y:a=1?", "y:1;", "y:[a", "y:(a=1", "y:!",
            "y:(a", "y:(a=1)", "y:!a", "y:a>1 ", "y:a=1|n=2"};
        for (String text : early) {
            Check.faults(1, text, text.length());
        }
        Check.faults(1, "x", 0);
        Check.faults(1, "y1", 1);
        Check.faults(1, "y:x", 2);
        Check.faults(1, "y:?1", 2);
        Check.faults(1, "y:a?1", 3);
        Check.faults(1, "y:(a)?1", 4);
        Check.faults(1, "y:(a=1)=1", 7);
        Check.faults(1, "y:(a=1)+1", 7);
        Check.faults(1, "y:[a=1]", 4);
        Check.faults(1, "y:[a=1]=1?1", 4);
        Check.faults(1, "y:a=1=2", 5);
        Check.faults(1, "y:a==1", 4);
        Check.faults(1, "y:a=b", 4);
        Check.faults(1, "y:a=1?b=1", 6);
        Check.faults(1, "y:a=1?a=1", 7);
        Check.faults(1, "y:a=1?!a", 6);
        Check.faults(1, "y:a&o", 3);
        Check.faults(1, "y:a|o", 3);
        Check.faults(1, "y:!1?1", 4);
        Check.faults(1, "y:1,y:2", 3);
        Check.faults(1, "y:1;x", 4);
        Check.faults(1, "y:aa", 3);
        Check.faults(1, "y:-1", 2);
        Check.faults(1, "y:1+-1", 4);
        Check.faults(1, "y:1 2", 4);
        Check.faults(1, "y:12345", 6);
        Check.faults(1, "y:00000", 6);
        Check.faults(1, "y:a=1)?1", 5);
        Check.faults(1, "y:a=1?(1)", 6);
        Check.faults(1, "y:a+(1)", 4);
        Check.faults(1, "y:a\u00ff", 3);
        Check.faults(1, "y:a=1|?1", 6);
        Check.faults(1, "y:a=1&?1", 6);
        Check.faults(1, "y:!?1", 3);
        Check.faults(1, "y:a=?1", 4);
        Check.faults(1, "y:1*;y:2", 4);
        Check.faults(1, "y:1+;y:2", 4);
        Check.faults(1, "y:;y:2", 2);
        Check.faults(1, "y:a=1?;y:2", 6);
        Check.faults(1, "y:()?1", 3);
        Check.faults(1, "y:[]", 3);
        // A seventh of ( [ ! within one another.
        Check.faults(1, "y:!!!!!!!a=1?1", 8);
        Check.faults(1, "y:((((((([", 8);
        Check.faults(1, "y:[[[[[[[1", 8);
        Check.faults(1, "y:(!(!(!([1", 8);
        Check.faults(1, "y:!!!!!![a]=1?1", 8);
        Check.faults(1, "y:!!!!!!a=[a]?1", 10);
        Check.faults(1, "y:a=1?[[[[[[[1", 12);
        Check.faults(1, "y:((((((a=1&(", 12);
    }

    private static void promise4Plans() {
        String[] right = {"p010", "p991", "t9", "l0", "m0", "c00", "c99", " p 1 2 0 ; c 1 2 ", "t0;l1;m2;c34;p561",
            "t0;t0;t0;t0;t0;t0;t0;t0;t0;t0;t0;t0;t0;t0;t0;t0", "p000"};
        for (String text : right) {
            Check.faults(2, text, Check.NONE);
        }
        String[] early = {"", " ", "p", "p0", "p01", "p01 ", "t", "l", "m", "c", "c0", "t0;", "t0; "};
        for (String text : early) {
            Check.faults(2, text, text.length());
        }
        Check.faults(2, "z", 0);
        Check.faults(2, "p012", 3);
        Check.faults(2, "p019", 3);
        Check.faults(2, "p01 2", 4);
        Check.faults(2, "pa", 1);
        Check.faults(2, "p0110", 4);
        Check.faults(2, "t00", 2);
        Check.faults(2, "m00", 2);
        Check.faults(2, "c000", 3);
        Check.faults(2, "tl", 1);
        Check.faults(2, "t0 t0", 3);
        Check.faults(2, "t0;;", 3);
        String sixteen = "t0;t0;t0;t0;t0;t0;t0;t0;t0;t0;t0;t0;t0;t0;t0;t0";
        Check.faults(2, sixteen + ";", 47);
        Check.faults(2, sixteen + " ;t0", 48);
        Check.faults(2, sixteen + "0", 47);
    }

    private static void promise5() {
        FrostBox x = new FrostBox();
        Check.due("5: house of two", Check.tell(x, 0, "k;kc2"), 2);
        Check.due("5: tape is empty", x.count(4), 0);
        Check.due("5: empty is no house", x.text(0), Check.NONE);
        Check.due("5: it stays the house", x.count(0), 2);
        Check.tape(x, "k;x");
        Check.due("5: a fault", x.text(0), Check.NONE);
        Check.due("5: the tape stays", x.count(4), 3);
        Check.due("5: the house stays", x.kind(1, 0), 2);
        Check.due("5: not read in part", x.count(0), 2);
        Check.tape(x, "k");
        Check.due("5: no such sort -1", x.text(-1), Check.NONE);
        Check.due("5: no such sort 3", x.text(3), Check.NONE);
        Check.due("5: stays too", x.count(4), 1);
        Check.tape(x, "t0");
        Check.due("5: a plan as sort 3", x.text(3), Check.NONE);
        Check.due("5: a plan as sort -1", x.text(-1), Check.NONE);
        Check.due("5: a plan as a house", x.text(0), Check.NONE);
        for (int i = 0; i < 4; i++) {
            Check.due("5: law", Check.tell(x, 1, "y:" + i), i);
            Check.due("5: its tape is empty", x.count(4), 0);
            Check.due("5: plan", Check.tell(x, 2, "t" + i), i);
            Check.due("5: its tape is empty, too", x.count(4), 0);
        }
        Check.tape(x, "y:5");
        Check.due("5: a fifth law has no fault", x.fault(1), Check.NONE);
        Check.due("5: a fifth law", x.text(1), Check.NONE);
        Check.due("5: the tape of a fifth law", x.count(4), 3);
        Check.tape(x, "m5");
        Check.due("5: a fifth plan", x.text(2), Check.NONE);
        Check.due("5: laws", x.count(2), 4);
        Check.due("5: plans", x.count(3), 4);
        Check.due("5: the last plan stays", x.step(3, 0, 1), 3);
        Check.due("5: no plan behind it", x.step(4, 0, 1), Check.HIDDEN);
        Check.due("5: no law behind it", x.law(4), false);
    }

    private static void promise5NewHouse() {
        FrostBox x = Check.house("k;bl1;bn3");
        Check.withLaw(x, "y:1");
        Check.tell(x, 2, "m1");
        x.habit(7);
        x.take(0);
        x.months(2);
        x.image();
        x.peek(0, 0);
        x.found(0, 0, true);
        Check.due("5: told", Check.tell(x, 0, "k;k;bk1n1;bn4l1a5"), 2);
        int[] counts = {2, 2, 1, 1, 0, 0, 0, 5, 10, 7, 0, 0, 0, 0, 0};
        for (int i = 0; i < counts.length; i++) {
            Check.due("5: count(" + i + ") of a new house", x.count(i), counts[i]);
        }
        Check.due("5: no image of this house", x.back(), Check.NONE);
        Check.due("5: nothing to undo", x.undo(), Check.NONE);
        Check.due("5: no log", x.log(0, 0), Check.NONE);
        Check.due("5: the last told is the top one", Check.box(x, 0, 1), 4);
        Check.due("5: the first told the lowest", Check.box(x, 1, 0), 1);
        Check.due("5: label told", x.nameless(), 2);
        Check.due("5: plan stays", x.run(0, 0), Check.NONE);
        // What was read before, as another house or for a fault, leaves nothing behind.
        Check.tape(x, "sr9;k;k;k;bn3;bn4;x");
        x.fault(0);
        x.fault(0);
        Check.due("5: a third house", Check.tell(x, 0, "k;bn1"), 1);
        Check.due("5: its boxes", x.count(1), 1);
        Check.due("5: its room", x.rule(0), 40);
        Check.due("5: a fourth house", Check.tell(x, 0, "k;k;s"), 2);
        Check.due("5: has none", x.count(1), 0);
        Check.due("5: a fifth house", Check.tell(x, 0, "s;kp7"), 1);
        Check.due("5: its worth", x.kind(0, 3), 7);
        FrostBox y = Check.house("kp9;bn1");
        Check.tape(y, "y:5;y:x");
        y.fault(1);
        Check.withLaw(y, "y:a");
        Check.due("5: no law read before", y.count(8), 9);
        Check.tape(y, "t0;t0;t0;x");
        y.fault(2);
        Check.tell(y, 2, "m3");
        Check.due("5: no plan read before", y.step(0, 1, 0), Check.HIDDEN);
        Check.due("5: all of it can be", y.run(0, 0), Check.NONE);
    }

    private static void promise19() {
        FrostBox x = new FrostBox();
        Check.tell(x, 2, "p581;t2;l3;m4;c07;c90;p000");
        int[][] steps = {{0, 5, 8, 1}, {1, 2, -1, -1}, {2, 3, -1, -1}, {3, 4, -1, -1}, {4, 7, -1, -1}, {4, 90, -1, -1},
            {0, 0, 0, 0}};
        for (int i = 0; i < steps.length; i++) {
            for (int what = 0; what < 4; what++) {
                Check.due("19: step(0, " + i + ", " + what + ")", x.step(0, i, what), steps[i][what]);
            }
        }
        Check.due("19: no such step", x.step(0, 7, 0), Check.HIDDEN);
        Check.due("19: step -1", x.step(0, -1, 0), Check.HIDDEN);
        Check.due("19: no such plan", x.step(1, 0, 0), Check.HIDDEN);
        Check.due("19: plan -1", x.step(-1, 0, 0), Check.HIDDEN);
        Check.due("19: no such what", x.step(0, 0, 4), Check.HIDDEN);
        Check.due("19: what -1", x.step(0, 0, -1), Check.HIDDEN);
        Check.tell(x, 2, "m9");
        Check.due("19: another plan", x.step(1, 0, 1), 9);
        Check.due("19: its end", x.step(1, 1, 1), Check.HIDDEN);
        Check.due("19: the first one stays", x.step(0, 1, 1), 2);
    }
}
