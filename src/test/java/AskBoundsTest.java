import java.util.ArrayList;
import java.util.List;

/** The bounds that 'Terms' names for what is asked: dinners, eating, hours, looks, histories, lots and the rest. */
public final class AskBoundsTest {
    private static final int[] FAR = {-3, -1000000, 100, 1000000, Integer.MIN_VALUE, Integer.MAX_VALUE};

    public static void main(String[] args) {
        dinnersOfSoMany();
        dinnersOfSeveral();
        dinnersThatGo();
        eating();
        eatingEight();
        behindMonth999();
        hoursAndTheMonth();
        full();
        keepAll();
        spans();
        nameless();
        doubles();
        looks();
        heldAndSure();
        lookThatTells();
        foundAtMost();
        historiesOfAll();
        historiesOfKindsTold();
        historyOfNothing();
        shares();
        lots();
        labellers();
        oldestAndDearest();
        spoilt();
        buried();
        goes();
        soonest();
        monthly();
        make();
        Check.finish("AskBoundsTest");
    }

    // ---- DINNER

    /** "DINNER for n (1 .. 30) PORTIONS: sets of BOXES .. with n PORTIONS or more". */
    private static void dinnersOfSoMany() {
        for (int portions = 0; portions <= 40; portions++) {
            StringBuilder text = new StringBuilder("k");
            int boxes = 0;
            for (int left = portions; left > 0; left -= 9) {
                text.append(";bn").append(Math.min(9, left));
                boxes++;
            }
            FrostBox x = Check.house(text.toString());
            for (int n = -1; n <= 42; n++) {
                boolean can = n >= 1 && n <= 30 && n <= portions;
                Check.due("dinner(" + n + ", 1) of " + portions, x.dinner(n, 1), can ? 300 : Check.NONE);
            }
            if (portions >= 1 && portions <= 30) {
                Check.due("all of " + portions, x.dinner(portions, 0), (1 << boxes) - 1);
            }
            for (int far : FAR) {
                Check.due("dinner(" + far + ", 0)", x.dinner(far, 0), Check.NONE);
                Check.due("dinner(1, " + far + ")", x.dinner(1, far), Check.NONE);
            }
            Check.due("dinner(1, 2)", x.dinner(1, 2), Check.NONE);
            Check.due("dinner(1, -1)", x.dinner(1, -1), Check.NONE);
        }
    }

    private static void dinner(String house, int n, int set, int rate) {
        FrostBox x = Check.house(house);
        Check.due("dinner(" + n + ", 0) of " + house, x.dinner(n, 0), set);
        Check.due("dinner(" + n + ", 1) of " + house, x.dinner(n, 1), rate);
    }

    /** "VALUE times 100 by PORTIONS, cut; of several the fewest PORTIONS, then the least bits". */
    private static void dinnersOfSeveral() {
        // Each is worth 3 a portion; the places from the top: 1, 2, 3, 4 portions.
        String rising = "k;bn4;bn3;bn2;bn1";
        dinner(rising, 1, 1, 300);
        dinner(rising, 2, 2, 300);
        dinner(rising, 3, 3, 300);
        dinner(rising, 4, 5, 300);
        dinner(rising, 5, 6, 300);
        dinner(rising, 6, 7, 300);
        dinner(rising, 7, 11, 300);
        dinner(rising, 8, 13, 300);
        dinner(rising, 9, 14, 300);
        dinner(rising, 10, 15, 300);
        dinner(rising, 11, Check.NONE, Check.NONE);
        // More by portion goes ahead of fewer portions.
        dinner("kp8;kp9g0;bk1n9;bn1", 1, 2, 900);
        dinner("kp8;kp9g0;bn1;bk1n9", 1, 1, 900);
        dinner("kp8;kp9g0;bn1;bk1n9", 10, 3, 890);
        // 26 by 3 is 866, 17 by 2 is 850.
        dinner("kp9;kp8g0;bn2;bk1n1", 3, 3, 866);
        dinner("kp9;kp8g0;bn1;bk1n1", 2, 3, 850);
        // 118 by 17 and 132 by 19 are alike, cut; 74 by 15 and 79 by 16, too.
        dinner("kp9g1;kp4g2;kp7g0;bk2n2;bn4;bk1n7;bn6", 13, 7, 694);
        FrostBox cut = Check.house("kp9;bn8;bn5;bn2;bn1");
        Check.withLaw(cut, "y:n=1?4;y:n=2?8;y:n=5?9");
        Check.due("fifteen portions rather than sixteen", cut.dinner(15, 0), 14);
        Check.due("both 493", cut.dinner(15, 1), 493);
        Check.due("sixteen", cut.dinner(16, 0), 15);
        Check.due("493, too", cut.dinner(16, 1), 493);
        // Of one rate 9 portions go ahead of 17, the least bits ahead of all others.
        dinner("kp1;kp1g0;bn9;bk1n8", 9, 2, 100);
        dinner("kp0;bn9;bn8;bn7", 8, 2, 0);
        dinner("kp0;bn9;bn8;bn7", 1, 1, 0);
        dinner("kp0;bn5;bn5;bn5", 5, 1, 0);
        dinner("kp0;bn5;bn5;bn5", 6, 3, 0);
        // Kinds of worth 3, 2, 1, each two of which go with one another.
        dinner("kp3g1;kp2g2;kp1g0;bn1;bk1n1;bk2n1", 2, 6, 250);
        dinner("kp3g1;kp2g2;kp1g0;bn1;bk1n1;bk2n1", 3, 7, 200);
        dinner("kp1;kp0g0;bn9;bn9;bk1n9;bk1n9", 28, 15, 50);
    }

    /** "of which each two are of one KIND or of KINDS of which one GOES with the other". */
    private static void dinnersThatGo() {
        dinner("k;k;bn5;bk1n5", 6, Check.NONE, Check.NONE);
        dinner("kg1;k;bn5;bk1n5", 6, 3, 300);
        dinner("k;kg0;bn5;bk1n5", 6, 3, 300);
        dinner("kg0;k;bn5;bk1n5", 6, Check.NONE, Check.NONE);
        dinner("kg0;kg1;bn5;bn5;bk1n5", 6, 6, 300);
        dinner("kg1;kg2;k;bn5;bk1n5;bk2n5", 11, Check.NONE, Check.NONE);
        dinner("kg1;kg2;kg0;bn5;bk1n5;bk2n5", 11, 7, 300);
        dinner("kg3;kg3;kg3;k;bn3;bk1n3;bk2n3;bk3n3", 6, 3, 300);
        dinner("kg3;kg3;kg3;k;bn3;bk1n3;bk2n3;bk3n3", 7, Check.NONE, Check.NONE);
        dinner("kg5;k;k;k;k;k;bn3;bk5n3", 6, 3, 300);
        // Eight boxes, all together.
        dinner("k" + ";bn3".repeat(8), 24, 255, 300);
        dinner("k" + ";bn3".repeat(8), 1, 1, 300);
        dinner("sr72;k" + ";bn9".repeat(8), 30, 15, 300);
    }

    // ---- EAT, BELOW, TOP

    private static void eating() {
        for (int boxes = 0; boxes <= 8; boxes++) {
            FrostBox x = Check.house("sr72;kp2" + ";bn9".repeat(boxes));
            int digits = 0;
            for (int i = 0; i < boxes; i++) {
                digits = 10 * digits + i;
            }
            Check.due("the least digits of " + boxes, x.eat(0), digits);
            for (int what = 1; what < 4; what++) {
                Check.due("eat(" + what + ") of " + boxes, x.eat(what), 18 * boxes);
            }
            for (int far : new int[] {-1, 4, 5, Integer.MIN_VALUE, Integer.MAX_VALUE}) {
                Check.due("eat(" + far + ") of " + boxes, x.eat(far), Check.NONE);
            }
            Check.due("none is eaten of " + boxes, x.count(1), boxes);
        }
        // AGES grow by a month for each box that was eaten: worth 3, keeps 1, ages 1.
        FrostBox y = Check.house("kp3o1;bn1a1;bn2a1;bn1a1;bn3a1;bn1a1");
        Check.due("9, 4, 1, 0, 0", y.eat(1), 9 + 4 + 1);
        Check.due("places 1 and 3 first", y.eat(0), 13024);
        Check.due("from below 3, 4, 1", y.eat(2), 3 + 4 + 1);
        Check.due("from the top 3, 6, 1", y.eat(3), 3 + 6 + 1);
    }

    private static void eatingEight() {
        // A loss for each box below: from below none is lost.
        FrostBox x = Check.house("kp9" + ";bn1".repeat(8));
        Check.withLaw(x, "y:y");
        Check.due("the highest digits there are", x.eat(0), 76543210);
        Check.due("nothing is lost", x.eat(1), 72);
        Check.due("from below", x.eat(2), 72);
        Check.due("from the top: 2, 3 ..", x.eat(3), 2 + 3 + 4 + 5 + 6 + 7 + 8 + 9);
        // A gain for each box below: from the top.
        Check.withLaw(x, "y:9-y");
        Check.due("the order of places", x.eat(0), 1234567);
        Check.due("7 below, 6 ..", x.eat(1), 7 + 6 + 5 + 4 + 3 + 2 + 1);
        Check.due("so from the top", x.eat(3), 28);
        Check.due("from below none", x.eat(2), 0);
        // The month as it is then: a gain for waiting alone.
        Check.withLaw(x, "y:9-m");
        Check.due("0, 1 .. 7", x.eat(1), 28);
        Check.due("in any order", x.eat(0), 1234567);
        // n is of the box, o and k of its kind.
        FrostBox w = Check.house("kp9o5;kp9o7;bn1;bk1n2;bn3;bk1n4");
        Check.withLaw(w, "y:m=0?9-n;y:m=1?9-o;y:m=2?9-9*k;y:9");
        // Now 1, 4, 9 or 16; behind one month 7 a portion of kind 1, 5 of 0; behind two 9 of kind 1; then none.
        Check.due("3 portions now, 2 of 7, 4 of 9", w.eat(1), 9 + 14 + 36);
        Check.due("in that order", w.eat(0), 1203);
    }

    /** "(What would be goes on behind MONTH 999.)" */
    private static void behindMonth999() {
        FrostBox x = Check.atMonth("kp9;bn1;bn1", 999);
        Check.withLaw(x, "y:m-999");
        Check.due("eat at 999", x.eat(1), 9 + 8);
        Check.due("from below", x.eat(2), 17);
        Check.due("from the top", x.eat(3), 17);
        for (int n = 0; n <= 60; n++) {
            Check.due("monthly(" + n + ") at 999", x.monthly(n), 2 * Math.max(0, 9 - n));
        }
        Check.due("soonest at 999", x.soonest(0), 9);
        Check.withLaw(x, "y:m>1097?9");
        Check.due("99 behind 999", x.soonest(1), 99);
        Check.withLaw(x, "y:m>1098?9");
        Check.due("a hundred behind 999", x.soonest(1), Check.NONE);
        Check.due("999 still", x.count(6), 999);
    }

    // ---- COSTS, KEEP, FULL

    /** Hours are no months: y and m stay as they are. */
    private static void hoursAndTheMonth() {
        for (int month = 0; month <= 9; month++) {
            FrostBox x = Check.atMonth("sh0;kp9;bn1;bn2", month);
            Check.withLaw(x, "y:m");
            for (int n : new int[] {1, 2, 50, 99}) {
                Check.due("costs(" + n + ") in month " + month, x.costs(n), 0);
                Check.due("worth 9 less the month", x.keep(n, 9 - month), 3);
                if (month > 0) {
                    Check.due("and no more", x.keep(n, 10 - month), 0);
                }
            }
            Check.withLaw(x, "y:y*3+m");
            Check.due("costs by y in month " + month, x.costs(99), 0);
        }
        FrostBox grown = Check.house("sh0;kp9;bn9a0");
        Check.withLaw(grown, "y:9-a");
        Check.due("what grows better costs less than none", grown.costs(9), -81);
        Check.due("by one hour", grown.costs(1), -9);
        FrostBox none = Check.house("k");
        Check.due("no boxes cost nothing", none.costs(99), 0);
        Check.due("none are kept", none.keep(99, 0), 0);
    }

    /** "the fewest PORTIONS (0 .. ROOM) by which so many are BORNE; none". */
    private static void full() {
        for (int room = 1; room <= 99; room += room < 12 ? 1 : 7) {
            for (int hours = 0; hours <= 24; hours++) {
                FrostBox x = Check.house("sr" + room + "h" + hours + ";k");
                for (int n = 1; n <= 26; n++) {
                    int portions = hours == 0 ? Check.NONE : (n * room + hours - 1) / hours;
                    Check.due("full(" + n + ") of " + room + " and " + hours, x.full(n), portions > room ? Check.NONE : portions);
                }
                Check.due("full(99)", x.full(99), Check.NONE);
                Check.due("full(0)", x.full(0), Check.NONE);
                Check.due("full(100)", x.full(100), Check.NONE);
            }
        }
    }

    private static void keepAll() {
        FrostBox x = Check.house("sh0;kp0;kp1;kp5;kp8;kp9;bk0;bk1;bk2;bk3;bk4");
        int[] worths = {9, 8, 5, 1, 0};
        for (int v = 0; v <= 9; v++) {
            int bits = 0;
            for (int i = 0; i < 5; i++) {
                bits |= worths[i] >= v ? 1 << i : 0;
            }
            Check.due("keep(12, " + v + ")", x.keep(12, v), bits);
            int older = 0;
            for (int i = 0; i < 5; i++) {
                older |= Math.max(0, worths[i] - 3) >= v ? 1 << i : 0;
            }
            Check.due("keep(15, " + v + ")", x.keep(15, v), older);
        }
        for (int v : new int[] {-1, 10, -10, Integer.MIN_VALUE, Integer.MAX_VALUE}) {
            Check.due("keep(1, " + v + ")", x.keep(1, v), Check.NONE);
        }
        Check.due("all of eight", Check.house("k" + ";b".repeat(8)).keep(99, 0), 255);
    }

    // ---- SPANS, NAMELESS, DOUBLES

    /** "what it WEIGHS can be divided by its WEIGHT of a PORTION: so many PORTIONS (1 .. 9; by more it does not)". */
    private static void spans() {
        for (int one = 1; one <= 9; one++) {
            for (int other = 1; other <= 9; other++) {
                for (int portions = 1; portions <= 9; portions += 2) {
                    FrostBox x = Check.house("kw" + one + ";kw" + other + ";kc1w" + one + ";bk1n" + portions);
                    int weighs = portions * other;
                    boolean seems = weighs % one == 0 && weighs / one <= 9;
                    String of = " of " + one + " for " + portions + " of " + other;
                    Check.due("spans(0, 1)" + of, x.spans(0, 1), seems ? weighs / one : 0);
                    Check.due("spans(0, 0)" + of, x.spans(0, 0), 0);
                    Check.due("its own kind" + of, x.spans(1, 1), portions);
                    Check.due("another colour" + of, x.spans(2, 1), 0);
                    x.label(0);
                    Check.due("labelled: not of 0" + of, x.spans(0, 1), 0);
                    Check.due("labelled: at least" + of, x.spans(1, 0), portions);
                    Check.due("labelled: at most" + of, x.spans(1, 1), portions);
                }
            }
        }
        FrostBox y = Check.house("k;k");
        for (int what = 0; what < 2; what++) {
            Check.due("of no boxes", y.spans(0, what), 0);
            for (int kind : new int[] {-1, 2, 6, Integer.MIN_VALUE, Integer.MAX_VALUE}) {
                Check.due("spans(" + kind + ", " + what + ")", y.spans(kind, what), Check.NONE);
            }
        }
        for (int what : new int[] {-1, 2, Integer.MIN_VALUE, Integer.MAX_VALUE}) {
            Check.due("spans(1, " + what + ")", y.spans(1, what), Check.NONE);
        }
        FrostBox z = Check.house("sr72;kw1;kw1" + ";bn9".repeat(4) + ";bk1n9l1".repeat(4));
        Check.due("72 at least and most, 36", z.spans(1, 0), 36);
        Check.due("all", z.spans(1, 1), 72);
        Check.due("those without a label", z.spans(0, 1), 36);
    }

    private static void nameless() {
        for (int bits = 0; bits < 256; bits++) {
            StringBuilder text = new StringBuilder("k");
            for (int place = 7; place >= 0; place--) {
                text.append(";bn1l").append(1 - (bits >> place & 1));
            }
            Check.due("nameless of " + text, Check.house(text.toString()).nameless(), bits);
        }
        Check.due("of no boxes", Check.house("k").nameless(), 0);
    }

    private static void doubles() {
        for (int boxes = 0; boxes <= 8; boxes++) {
            FrostBox x = Check.house("k" + ";bn1".repeat(boxes));
            int i = 0;
            for (int upper = 0; upper < boxes; upper++) {
                for (int lower = upper + 1; lower < boxes; lower++) {
                    Check.due("doubles(" + i + ") of " + boxes, x.doubles(i), 10 * upper + lower);
                    i++;
                }
            }
            Check.due("doubles of " + boxes, x.doubles(-1), i);
            Check.due("behind the last of " + boxes, x.doubles(i), Check.NONE);
            Check.due("doubles(-2) of " + boxes, x.doubles(-2), Check.NONE);
            for (int far : FAR) {
                Check.due("doubles(" + far + ") of " + boxes, x.doubles(far), Check.NONE);
            }
        }
        Check.due("of another weight", Check.house("kw2;kw3;bn1;bk1n1").doubles(-1), 0);
        Check.due("of one weight by two kinds", Check.house("kw2;kw3;bn3;bk1n2").doubles(-1), 1);
        Check.due("of another colour", Check.house("kc1;kc2;b;bk1").doubles(-1), 0);
        Check.due("one with a label", Check.house("k;b;bl1").doubles(-1), 0);
        Check.due("both with one", Check.house("k;bl1;bl1").doubles(-1), 0);
    }

    // ---- LOOKS, WHAT, SURE, LOOK

    private static void looks() {
        for (int sort = -2; sort <= 3; sort++) {
            for (int seemed = -2; seemed <= 11; seemed++) {
                FrostBox x = Check.house("k");
                boolean good = sort == 0 && seemed >= 0 && seemed <= 5 || sort == 1 && seemed >= 1 && seemed <= 9;
                Check.due("peek(" + sort + ", " + seemed + ")", x.peek(sort, seemed), good ? 1 : Check.NONE);
                Check.due("looks", x.count(10), good ? 1 : 0);
                Check.due("no act", x.count(14), 0);
            }
        }
        FrostBox y = Check.house("k");
        for (int far : FAR) {
            Check.due("peek(" + far + ", 1)", y.peek(far, 1), Check.NONE);
            Check.due("peek(0, " + far + ")", y.peek(0, far), Check.NONE);
            Check.due("peek(1, " + far + ")", y.peek(1, far), Check.NONE);
        }
        for (int i = 1; i <= 12; i++) {
            Check.due("the look " + i, y.peek(i % 2, i % 5 + 1), i);
        }
        for (int i = 0; i < 3; i++) {
            Check.due("a thirteenth", y.peek(0, 0), Check.NONE);
        }
        Check.due("twelve", y.count(10), 12);
    }

    private static void heldAndSure() {
        // No looks: all kinds are held alike.
        int[] sure = {1000, 500, 333, 250, 200, 166};
        for (int kinds = 1; kinds <= 6; kinds++) {
            String text = "k" + ";k".repeat(kinds - 1);
            Check.due("sure of " + kinds, Check.house(text).what(1), sure[kinds - 1]);
            Check.due("the lowest of " + kinds, Check.house(text).what(0), 0);
            FrostBox half = Check.house("se5;kc1" + ";k".repeat(kinds - 1));
            for (int i = 0; i < 12; i++) {
                half.peek(0, 0);
            }
            Check.due("half of twelve wrong, of " + kinds, half.what(1), sure[kinds - 1]);
            Check.due("the lowest, too", half.what(0), 0);
        }
        // Never wrong: 10 twelve times over, 0 for all others.
        FrostBox x = Check.house("se0;kc0;kc1;kc2;kc3;kc4;kc5");
        for (int i = 0; i < 12; i++) {
            x.peek(0, 5);
        }
        Check.due("the last kind", x.what(0), 5);
        Check.due("for sure", x.what(1), 1000);
        FrostBox six = Check.house("se0;k;k;k;k;k;k");
        for (int i = 0; i < 12; i++) {
            six.peek(0, 0);
        }
        Check.due("six times 10 twelve times over", six.what(1), 166);
        FrostBox none = Check.house("se0;kc1;kc2");
        none.peek(0, 3);
        Check.due("0 of none", none.what(1), 0);
        Check.due("the lowest of none", none.what(0), 0);
        Check.due("alike 0", none.what(2), 0);
        // Of how many wrong: 10 less e beside e.
        for (int wrong = 0; wrong <= 5; wrong++) {
            FrostBox y = Check.house("se" + wrong + ";kw1;kw2");
            y.peek(1, 2);
            Check.due("the one it seemed, " + wrong + " wrong", y.what(0), wrong == 5 ? 0 : 1);
            Check.due("sure by " + wrong + " wrong", y.what(1), wrong == 5 ? 500 : 1000 * (10 - wrong) / 10);
            y.peek(1, 1);
            Check.due("both alike", y.what(0), 0);
            Check.due("both alike, sure", y.what(1), wrong == 0 ? 0 : 500);
        }
        for (int what : new int[] {-1, 3, 4, Integer.MIN_VALUE, Integer.MAX_VALUE}) {
            Check.due("what(" + what + ")", x.what(what), Check.NONE);
        }
    }

    /** "of each sort the greatest HELD together of KINDS that are alike by it ..: the sort of which that is the least". */
    private static void lookThatTells() {
        Check.due("one kind", Check.house("k").what(2), 0);
        Check.due("all of one colour and weight", Check.house("k;k;k").what(2), 0);
        Check.due("colours tell", Check.house("kc1;kc2;kc3").what(2), 0);
        Check.due("weights tell", Check.house("kw1;kw2;kw3").what(2), 1);
        Check.due("both tell", Check.house("kc1w1;kc2w2;kc3w3").what(2), 0);
        Check.due("two and two", Check.house("kc1w1;kc1w2;kc2w2").what(2), 0);
        Check.due("three of one colour, two of one weight", Check.house("kc1w1;kc1w1;kc1w2;kc2w2").what(2), 1);
        Check.due("two of one colour, three of one weight", Check.house("kc1w1;kc1w1;kc2w1;kc2w2").what(2), 0);
        // By what is held, not by how many.
        FrostBox sure = Check.house("se0;kc1w1;kc1w2;kc2w2");
        sure.peek(1, 1);
        // 10, 0, 0: by colour 10, by weight 10.
        Check.due("one held alone", sure.what(2), 0);
        FrostBox x = Check.house("kc1w1;kc1w2;kc2w3;kc2w3");
        Check.due("as many", x.what(2), 0);
        x.peek(1, 1);
        // 9, 1, 1, 1: by colour 10, by weight 9.
        Check.due("now weight", x.what(2), 1);
        x.peek(1, 3);
        // 9, 1, 9, 9: by colour 18, by weight 18.
        Check.due("alike", x.what(2), 0);
        x.peek(1, 3);
        // 9, 1, 81, 81: by colour 162, by weight 162.
        Check.due("alike again", x.what(2), 0);
    }

    // ---- FOUND, HISTORY, SHARE

    private static void foundAtMost() {
        for (int kinds = 1; kinds <= 6; kinds++) {
            FrostBox x = Check.house("k" + ";k".repeat(kinds - 1));
            for (int i : new int[] {-1, 6, 7, Integer.MIN_VALUE, Integer.MAX_VALUE}) {
                Check.due("found(" + i + ", 0)", x.found(i, 0, true), Check.NONE);
            }
            for (int kind : new int[] {-1, kinds, 6, Integer.MIN_VALUE, Integer.MAX_VALUE}) {
                Check.due("found(0, " + kind + ")", x.found(0, kind, false), Check.NONE);
            }
            Check.due("none", x.count(11), 0);
            for (int n = 1; n <= 10; n++) {
                Check.due("found " + n, x.found(n % 6, n % kinds, false), n);
            }
            Check.due("an eleventh", x.found(0, 0, true), Check.NONE);
            Check.due("ten", x.count(11), 10);
            Check.due("no act", x.count(14), 0);
        }
    }

    private static int[] digitsOf(int number) {
        int[] digits = new int[6];
        for (int i = 5, left = number; i >= 0; i--, left /= 10) {
            digits[i] = left % 10;
        }
        return digits;
    }

    private static List<Integer> allOfSumSix() {
        List<Integer> all = new ArrayList<>();
        for (int number = 0; number <= 600000; number++) {
            int sum = 0;
            for (int digit : digitsOf(number)) {
                sum += digit;
            }
            if (sum == 6) {
                all.add(number);
            }
        }
        return all;
    }

    private static void historiesOfAll() {
        int[] factorial = {1, 1, 2, 6, 24, 120, 720};
        List<Integer> all = allOfSumSix();
        Check.due("so many digits have the sum 6", all.size(), 462);
        for (int number : all) {
            FrostBox x = Check.house("k;k;k;k;k;k");
            int rows = 720;
            int least = 0;
            int greatest = 0;
            int tens = 1;
            for (int kind = 0; kind < 6; kind++) {
                int many = digitsOf(number)[kind];
                rows /= factorial[many];
                for (int i = 0; i < many; i++) {
                    least = 10 * least + kind;
                    greatest += kind * tens;
                    tens *= 10;
                }
            }
            String of = " of " + number;
            Check.due("rows" + of, x.history(number, -1), rows);
            Check.due("the least" + of, x.history(number, 0), least);
            Check.due("the greatest" + of, x.history(number, rows - 1), greatest);
            Check.due("no more" + of, x.history(number, rows), Check.NONE);
            Check.due("i -2" + of, x.history(number, -2), Check.NONE);
            int last = Check.NONE;
            for (int i = 0; i < rows; i += 1 + rows / 90) {
                int row = x.history(number, i);
                Check.due("rising at " + i + of, row > last, true);
                last = row;
            }
            for (int far : new int[] {721, Integer.MAX_VALUE, Integer.MIN_VALUE}) {
                Check.due("i " + far + of, x.history(number, far), Check.NONE);
            }
            Check.due("share" + of, x.share(number), rows == 1 ? 63 : 0);
        }
    }

    private static void historiesOfKindsTold() {
        List<Integer> all = allOfSumSix();
        for (int kinds = 1; kinds <= 6; kinds++) {
            FrostBox x = null;
            for (int n = 0; n < all.size(); n++) {
                x = n % 200 == 0 ? Check.house("k" + ";k".repeat(kinds - 1)) : x;
                boolean told = true;
                for (int kind = kinds; kind < 6; kind++) {
                    told = told && digitsOf(all.get(n))[kind] == 0;
                }
                String of = " of " + all.get(n) + " by " + kinds;
                Check.due("history" + of, x.history(all.get(n), -1) > 0, told);
                Check.due("share" + of, x.share(all.get(n)) >= 0, told);
            }
        }
    }

    /** Digits of another sum, below 0, or more than six of them. */
    private static void historyOfNothing() {
        FrostBox x = null;
        int asked = 0;
        for (int number = 0; number < 1100000; number += 17) {
            int sum = 0;
            for (int left = number; left > 0; left /= 10) {
                sum += left % 10;
            }
            if (sum != 6 || number > 999999) {
                x = asked % 200 == 0 ? Check.house("k;k;k;k;k;k") : x;
                asked++;
                Check.due("history(" + number + ")", x.history(number, -1), Check.NONE);
                Check.due("share(" + number + ")", x.share(number), Check.NONE);
            }
        }
        FrostBox y = Check.house("k;k;k;k;k;k");
        for (int number : new int[] {0, 5, 7, 500000, 700000, 599999, 999999, 1000005, 1000000 + 500000, 10000000, 6000000,
            -1, -6, -600000, -111111, Integer.MIN_VALUE, Integer.MAX_VALUE}) {
            Check.due("history(" + number + ", -1)", y.history(number, -1), Check.NONE);
            Check.due("history(" + number + ", 0)", y.history(number, 0), Check.NONE);
            Check.due("share(" + number + ")", y.share(number), Check.NONE);
        }
    }

    private static void shares() {
        for (int box = 0; box < 6; box++) {
            FrostBox x = Check.house("k;k");
            Check.due("five of one: none is sure", x.share(510000), 0);
            x.found(box, 1, true);
            Check.due("the sixth is found", x.share(510000), 63);
            Check.due("where", x.history(510000, 0), (int) Math.pow(10, 5 - box));
            Check.due("two of them: it alone is sure", x.share(420000), 1 << box);
            Check.due("no row", x.share(600000), Check.NONE);
            Check.due("none", x.history(600000, -1), 0);
            Check.due("so no first", x.history(600000, 0), Check.NONE);
            FrostBox y = Check.house("k;k");
            y.found(box, 1, false);
            Check.due("it is not there", y.share(510000), 1 << box);
            Check.due("five rows", y.history(510000, -1), 5);
            y.found(box, 0, false);
            Check.due("it is of no kind", y.history(510000, -1), 0);
            Check.due("no row of six", y.share(60000), Check.NONE);
        }
        // Ten of them, all so.
        FrostBox z = Check.house("k;k;k;k;k;k");
        for (int i = 0; i < 5; i++) {
            z.found(i, i, true);
            z.found(i, (i + 1) % 6, false);
        }
        Check.due("one row", z.history(111111, -1), 1);
        Check.due("that", z.history(111111, 0), 12345);
        Check.due("all sure", z.share(111111), 63);
    }

    // ---- LOT, LABELLER, RESTS

    private static void lots() {
        int[] threes = {0, 0, 0, 1, 4, 10, 20, 35, 56};
        for (int boxes = 0; boxes <= 8; boxes++) {
            FrostBox x = Check.house("k" + ";bn1".repeat(boxes));
            Check.due("threes of " + boxes, x.lot(1), threes[boxes]);
            Check.due("sum of " + boxes, x.lot(0), 3 * threes[boxes]);
            for (int far : new int[] {-1, 2, Integer.MIN_VALUE, Integer.MAX_VALUE}) {
                Check.due("lot(" + far + ")", x.lot(far), Check.NONE);
            }
        }
        // Values 1 .. 8: the greatest is i for the pairs of those below it.
        FrostBox y = Check.house("kp1;bn8;bn1;bn7;bn2;bn6;bn3;bn5;bn4");
        int sum = 0;
        for (int i = 3; i <= 8; i++) {
            sum += i * (i - 1) * (i - 2) / 2;
        }
        Check.due("the greatest of each three", y.lot(0), sum);
        Check.due("of no value", Check.house("kp0;b;b;b;b").lot(0), 0);
        Check.due("72 by 9", Check.house("sr72;kp9" + ";bn9".repeat(8)).lot(0), 81 * 56);
    }

    private static void labellers() {
        for (int without = 0; without <= 8; without++) {
            FrostBox x = Check.house("k" + ";bn1".repeat(without) + ";bn1l1".repeat(8 - without));
            int all = 2 * without;
            int[] has = {0, all, all - 3, all - 3};
            for (int pair = 0; pair < 4; pair++) {
                Check.due("labels of " + without + ", " + pair, x.labels(pair / 2, pair % 2), has[pair]);
            }
            int[] rests = without <= 1 ? new int[] {0} : new int[] {1, 10};
            Check.due("rests of " + without, x.rests(-1), rests.length);
            for (int i = 0; i < rests.length; i++) {
                Check.due("rests(" + i + ") of " + without, x.rests(i), rests[i]);
            }
            Check.due("no more of " + without, x.rests(rests.length), Check.NONE);
            Check.due("rests(-2) of " + without, x.rests(-2), Check.NONE);
            for (int far : FAR) {
                Check.due("rests(" + far + ")", x.rests(far), Check.NONE);
                Check.due("labels(" + far + ", 0)", x.labels(far, 0), Check.HIDDEN);
                Check.due("labels(0, " + far + ")", x.labels(0, far), Check.HIDDEN);
            }
            Check.due("labels(2, 1)", x.labels(2, 1), Check.HIDDEN);
            Check.due("labels(1, 2)", x.labels(1, 2), Check.HIDDEN);
            Check.due("labels(-1, 1)", x.labels(-1, 1), Check.HIDDEN);
            Check.due("labels(1, -1)", x.labels(1, -1), Check.HIDDEN);
        }
        FrostBox none = Check.house("k");
        Check.due("of no boxes", none.labels(1, 0), -3);
        Check.due("it rests", none.rests(0), 0);
    }

    // ---- OLDEST, DEAREST, SPOILT, BURIED, GOES

    private static void oldestAndDearest() {
        for (int best = 0; best < 8; best++) {
            StringBuilder text = new StringBuilder("kp1o36");
            for (int place = 7; place >= 0; place--) {
                text.append(place == best ? ";bn5a9" : ";bn4a8");
            }
            FrostBox x = Check.house(text.toString());
            Check.due("oldest of " + text, x.most(0), best);
            Check.due("dearest of " + text, x.most(1), best);
        }
        FrostBox same = Check.house("k" + ";b".repeat(8));
        Check.due("of several the upper, oldest", same.most(0), 0);
        Check.due("of several the upper, dearest", same.most(1), 0);
        FrostBox two = Check.house("kp9o1;ba9n1;ba99n1;ba5n9;ba99n2;ba5n9;ba0n1");
        Check.due("two of age 99", two.most(0), 2);
        Check.due("two of value 45", two.most(1), 1);
        for (int far : new int[] {-1, 2, Integer.MIN_VALUE, Integer.MAX_VALUE}) {
            Check.due("most(" + far + ")", two.most(far), Check.NONE);
        }
        FrostBox none = Check.house("k;b");
        none.take(0);
        Check.due("no box, no oldest", none.most(0), Check.NONE);
        Check.due("no box, no dearest", none.most(1), Check.NONE);
        none.undo();
        Check.due("one box", none.most(1), 0);
    }

    private static void spoilt() {
        // Worth 3, keeps 12: value 0 from age 15 on.
        Check.due("at 14 not, at 15", Check.house("k;ba14;ba15;ba16;ba0;ba99").spoilt(), 1 + 4 + 8);
        Check.due("all of eight", Check.house("kp0" + ";b".repeat(8)).spoilt(), 255);
        Check.due("none of eight", Check.house("kp1" + ";b".repeat(8)).spoilt(), 0);
        Check.due("of no boxes", Check.house("k").spoilt(), 0);
    }

    private static void buried() {
        FrostBox x = Check.house("sr72;k" + ";bn9".repeat(8));
        for (int box = 0; box < 8; box++) {
            Check.due("buried(" + box + ")", x.buried(box), 9 * box);
        }
        for (int far : new int[] {-1, 8, 9, Integer.MIN_VALUE, Integer.MAX_VALUE}) {
            Check.due("buried(" + far + ")", x.buried(far), Check.NONE);
            Check.due("soonest(" + far + ")", x.soonest(far), Check.NONE);
        }
        Check.due("of no boxes", Check.house("k").buried(0), Check.NONE);
    }

    private static void goes() {
        for (int kinds = 1; kinds <= 6; kinds++) {
            FrostBox x = Check.house("k" + ";k".repeat(kinds - 1));
            for (int kind = 0; kind < kinds; kind++) {
                Check.due("itself alone", x.goes(kind), 1 << kind);
            }
            for (int far : new int[] {-1, kinds, 6, Integer.MIN_VALUE, Integer.MAX_VALUE}) {
                Check.due("goes(" + far + ") of " + kinds, x.goes(far), Check.NONE);
                Check.due("kind(" + far + ", 0) of " + kinds, x.kind(far, 0), Check.NONE);
                Check.due("make(" + far + ", 3) of " + kinds, x.make(far, 3), Check.NONE);
            }
        }
        FrostBox y = Check.house("kg0;kg0;kg0;kg0;kg0;kg0");
        Check.due("all with the first", y.goes(0), 63);
        for (int kind = 1; kind < 6; kind++) {
            Check.due("with the first alone", y.goes(kind), 1 << kind | 1);
        }
    }

    // ---- SOONEST, MONTHLY, MAKE

    /** "behind how many MONTHS (0 .. 99) a BOX has VALUE 0 first, if it is not moved". */
    private static void soonest() {
        for (int months = 0; months <= 101; months++) {
            FrostBox x = Check.house("kp9;bn1;bn1");
            Check.withLaw(x, "y:m>" + months + "|m=" + months + "?9");
            Check.due("from month " + months + " on", x.soonest(0), months <= 99 ? months : Check.NONE);
            Check.withLaw(x, "y:a=" + Math.min(months, 99) + "?9");
            Check.due("at age " + months, x.soonest(0), Math.min(months, 99));
        }
        for (int keeps = 1; keeps <= 36; keeps += 5) {
            FrostBox y = Check.house("kp9o" + keeps + ";ba0;ba" + keeps + ";ba99;ba" + (keeps + 8) + ";ba" + (keeps + 9));
            Check.due("nine gone already", y.soonest(0), 0);
            Check.due("eight gone already", y.soonest(1), 1);
            Check.due("99 months old", y.soonest(2), 0);
            Check.due("none gone", y.soonest(3), 9);
            Check.due("fresh", y.soonest(4), keeps + 9);
        }
        FrostBox z = Check.house("kp1;ba98;b");
        Check.withLaw(z, "y:a>99?1");
        Check.due("never older than 99", z.soonest(1), Check.NONE);
        Check.withLaw(z, "y:y=0&a=99?1");
        Check.due("at 99 behind one month", z.soonest(1), 1);
        Check.due("one lies below it", z.soonest(0), Check.NONE);
    }

    private static void monthly() {
        FrostBox x = Check.house("kp9o1;bn1;bn2a3");
        for (int n = 0; n <= 60; n++) {
            int first = Math.max(0, 9 - Math.max(0, n - 1));
            int second = Math.max(0, 9 - Math.max(0, n + 2));
            Check.due("monthly(" + n + ")", x.monthly(n), first + 2 * second);
        }
        for (int far : new int[] {-1, 61, 62, Integer.MIN_VALUE, Integer.MAX_VALUE}) {
            Check.due("monthly(" + far + ")", x.monthly(far), Check.NONE);
        }
        Check.due("monthly(0) is now", x.monthly(0), x.count(8));
        FrostBox y = Check.house("kp9;bn1");
        Check.withLaw(y, "y:m=60&a=60?4");
        Check.due("the sixtieth", y.monthly(60), 5);
        Check.due("the 59th", y.monthly(59), 9);
    }

    /** "PORTIONS of a KIND of which a BOX would weigh w (none: it can't be)"; "w 1 .. 81". */
    private static void make() {
        for (int one = 1; one <= 9; one++) {
            FrostBox x = Check.house("sr1;kw" + one);
            for (int w = -2; w <= 100; w++) {
                boolean can = w >= 1 && w % one == 0 && w / one <= 9;
                Check.due("make(0, " + w + ") by " + one, x.make(0, w), can ? w / one : Check.NONE);
            }
            Check.due("make of the least", x.make(0, Integer.MIN_VALUE), Check.NONE);
            Check.due("make of the greatest", x.make(0, Integer.MAX_VALUE), Check.NONE);
        }
    }
}
