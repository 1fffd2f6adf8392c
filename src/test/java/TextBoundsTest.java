import java.util.ArrayList;
import java.util.Arrays;
import java.util.List;

/** The bounds that 'Terms' names for texts: every number of every letter, every byte behind a beginning, every nesting. */
public final class TextBoundsTest {
    private static final String DIGITS = "0123456789";
    private static final String ATOM = "[aonykm0123456789 ";

    private record Item(char clause, char letter, int least, int most, int usual) { }

    private static final Item[] ITEMS = {
        new Item('s', 'r', 1, 99, 40), new Item('s', 'h', 0, 24, 9), new Item('s', 'l', 1, 99, 6), new Item('s', 'e', 0, 5, 1),
        new Item('k', 'c', 0, 5, 0), new Item('k', 'w', 1, 9, 3), new Item('k', 'o', 1, 36, 12), new Item('k', 'p', 0, 9, 3),
        new Item('k', 'g', 0, 6, 6),
        new Item('b', 'k', 0, 5, 0), new Item('b', 'n', 1, 9, 2), new Item('b', 'a', 0, 99, 0), new Item('b', 'l', 0, 1, 0)};

    public static void main(String[] args) {
        numbersOfItems();
        thirdDigits();
        whatIsUsual();
        eachLetterOnce();
        bytesOfHouses();
        bytesOfLaws();
        bytesOfPlans();
        clausesAtMost();
        kindsNotTold();
        portionsAndRoom();
        blanks();
        nestings();
        longTexts();
        fourOfEach();
        lawNumbers();
        stepDigits();
        tapeOfNothing();
        Check.finish("TextBoundsTest");
    }

    // ---- "a letter, each once at most in a CLAUSE, and a number (one or two digits)", each with its bounds

    /** A house with the item told, so that no other fault can be in it; before[0] is how long it is ahead of the number. */
    private static String houseWith(Item item, String number, int[] before) {
        String ahead = item.clause == 'b' ? "k;k;k;k;k;k;b" : "" + item.clause;
        before[0] = ahead.length() + 1;
        String behind = item.clause == 's' ? ";k" : item.clause == 'k' ? ";k;k;k;k;k" : "";
        return ahead + item.letter + number + behind;
    }

    private static int told(FrostBox x, Item item) {
        int what = 0;
        for (Item other : ITEMS) {
            if (other.letter == item.letter && other.clause == item.clause) {
                break;
            }
            what += other.clause == item.clause ? 1 : 0;
        }
        return item.clause == 's' ? x.rule(what) : item.clause == 'k' ? x.kind(0, what) : Check.box(x, 0, what);
    }

    private static void numbersOfItems() {
        int[] before = new int[1];
        for (Item item : ITEMS) {
            for (int v = 0; v < 100; v++) {
                String[] forms = v < 10 ? new String[] {"" + v, "0" + v} : new String[] {"" + v};
                for (String form : forms) {
                    String text = houseWith(item, form, before);
                    FrostBox x = new FrostBox();
                    Check.tape(x, text);
                    boolean within = v >= item.least && v <= item.most;
                    int lastDigit = before[0] + form.length() - 1;
                    Check.due("fault(0) of " + text, x.fault(0), within ? Check.NONE : lastDigit);
                    int kinds = item.clause == 's' ? 1 : 6;
                    Check.due("text(0) of " + text, x.text(0), within ? kinds : Check.NONE);
                    if (within) {
                        Check.due("what " + text + " tells", told(x, item), item.letter == 'g' && v == 6 ? Check.NONE : v);
                    } else {
                        Check.due("the tape of " + text + " stays", x.count(4), text.length());
                        Check.due(text + " is no house", x.count(0), 0);
                    }
                }
            }
        }
    }

    /** "a third digit (whatever stands ahead of it ..) itself". */
    private static void thirdDigits() {
        int[] before = new int[1];
        for (Item item : ITEMS) {
            for (String form : new String[] {"000", "001", "010", "100", "999", "0000", "123456789"}) {
                Check.faults(0, houseWith(item, form, before), before[0] + 2);
            }
        }
    }

    private static void whatIsUsual() {
        FrostBox x = Check.house("s;k;b");
        for (Item item : ITEMS) {
            Check.due("without " + item, told(x, item), item.letter == 'g' ? Check.NONE : item.usual);
        }
        FrostBox y = Check.house("k;b");
        for (Item item : ITEMS) {
            Check.due("without s and " + item, told(y, item), item.letter == 'g' ? Check.NONE : item.usual);
        }
    }

    private static void eachLetterOnce() {
        for (Item first : ITEMS) {
            for (Item second : ITEMS) {
                if (first.clause == second.clause) {
                    String text = "k;k;" + first.clause + first.letter + "1" + second.letter + "1";
                    Check.faults(0, text, first.letter == second.letter ? text.length() - 2 : Check.NONE);
                }
            }
        }
        Check.faults(0, "sr1h1l1e1r1;k", 9);
        Check.faults(0, "kc1w1o1p1g0p1", 11);
        Check.faults(0, "k;bk0n1a1l1a1", 11);
        Check.faults(0, "k;bn1;bn1;bn1", Check.NONE);
        Check.faults(0, "kp1;kp1;kp1", Check.NONE);
    }

    // ---- "the first byte at which no such TEXT can go on"

    /** Behind a beginning that is right so far, each byte is a fault at it, but for those that may stand there. */
    private static void goesOn(int sort, String begun, String may) {
        for (int sign = 1; sign < 256; sign++) {
            FrostBox x = new FrostBox();
            Check.tape(x, begun + (char) sign);
            int fault = x.fault(sort);
            boolean here = fault == begun.length();
            boolean early = fault != Check.NONE && fault < begun.length();
            Check.due("fault(" + sort + ") of " + begun + " and the byte " + sign + " is " + fault + "; at the byte",
                    here, may.indexOf(sign) < 0);
            Check.due("fault(" + sort + ") of " + begun + " and the byte " + sign + " is " + fault + "; early", early, false);
        }
    }

    private static void bytesOfHouses() {
        goesOn(0, "", "skb ");
        goesOn(0, " ", "skb ");
        goesOn(0, "s", "rhle; ");
        goesOn(0, "k", "cwopg; ");
        goesOn(0, "b", "knal; ");
        goesOn(0, "k;", "skb ");
        goesOn(0, "s;", "kb ");
        goesOn(0, "s;k;b;", "kb ");
        goesOn(0, "sr", "123456789 ");
        goesOn(0, "sh", DIGITS + " ");
        goesOn(0, "sl", "123456789 ");
        goesOn(0, "se", "012345 ");
        goesOn(0, "kc", "012345 ");
        goesOn(0, "kw", "123456789 ");
        goesOn(0, "ko", "123456789 ");
        goesOn(0, "kp", DIGITS + " ");
        goesOn(0, "kg", "0123456 ");
        goesOn(0, "bk", "012345 ");
        goesOn(0, "bn", "123456789 ");
        goesOn(0, "ba", DIGITS + " ");
        goesOn(0, "bl", "01 ");
        goesOn(0, "sr9", DIGITS + ";hle ");
        goesOn(0, "sh2", "01234;rle ");
        goesOn(0, "sh3", ";rle ");
        goesOn(0, "se0", "012345;rhl ");
        goesOn(0, "ko3", "0123456;cwpg ");
        goesOn(0, "ko4", ";cwpg ");
        goesOn(0, "kc0", "012345;wopg ");
        goesOn(0, "kc1", ";wopg ");
        goesOn(0, "kc1 ", ";wopg ");
        goesOn(0, "kc05", ";wopg ");
        goesOn(0, "kc1w2o3p4g0", "0123456; ");
        goesOn(0, "kc1w2o3p4g00", "; ");
        goesOn(0, "ba99", ";knl ");
        goesOn(0, "bl1", ";kna ");
        goesOn(0, "bl0", "01;kna ");
    }

    private static void bytesOfLaws() {
        goesOn(1, "", "y ");
        goesOn(1, "y", ": ");
        goesOn(1, "y:", "!(" + ATOM);
        for (String atom : new String[] {"a", "o", "n", "y", "k", "m", "[a]", "1234", "0 "}) {
            goesOn(1, "y:" + atom, "=<>+-*/; ");
            goesOn(1, "y:(" + atom, "=<>+-*/ ");
            goesOn(1, "y:!" + atom, "=<>+-*/ ");
            goesOn(1, "y:[" + atom, "+-*/] ");
            goesOn(1, "y:a=" + atom, "+-*/&|? ");
            goesOn(1, "y:(a=" + atom, "+-*/&|) ");
            goesOn(1, "y:a=o?" + atom, "+-*/; ");
            goesOn(1, "y:a+" + atom, "=<>+-*/; ");
        }
        goesOn(1, "y:1", DIGITS + "=<>+-*/; ");
        goesOn(1, "y:123", DIGITS + "=<>+-*/; ");
        goesOn(1, "y:a=123", DIGITS + "+-*/&|? ");
        for (String sign : new String[] {"+", "-", "*", "/", "=", "<", ">"}) {
            goesOn(1, "y:a" + sign, ATOM);
        }
        goesOn(1, "y:a=o&", "!(" + ATOM);
        goesOn(1, "y:a=o|", "!(" + ATOM);
        goesOn(1, "y:a=o&a>o|", "!(" + ATOM);
        goesOn(1, "y:!", "!(" + ATOM);
        goesOn(1, "y:(", "!(" + ATOM);
        goesOn(1, "y:(a=o)", "&|? ");
        goesOn(1, "y:((a=o)", "&|) ");
        goesOn(1, "y:!(a=o)", "&|? ");
        goesOn(1, "y:(a=o)&", "!(" + ATOM);
        goesOn(1, "y:[", ATOM);
        goesOn(1, "y:[[a]", "+-*/] ");
        goesOn(1, "y:a=o?", ATOM);
        goesOn(1, "y:(a=o)?", ATOM);
        goesOn(1, "y:a;", "y ");
        goesOn(1, "y:a;y", ": ");
    }

    private static void bytesOfPlans() {
        goesOn(2, "", "ptlmc ");
        goesOn(2, "t0;", "ptlmc ");
        for (String begun : new String[] {"p", "p0", "p 9", "t", "l", "m", "c", "c9", "c 0 "}) {
            goesOn(2, begun, DIGITS + " ");
        }
        goesOn(2, "p99", "01 ");
        goesOn(2, "p00 ", "01 ");
        for (String whole : new String[] {"p000", "p991", "t9", "l0", "m5", "c00", "c99"}) {
            goesOn(2, whole, "; ");
        }
    }

    // ---- how many there can be

    private static String times(String text, int n) {
        return text.repeat(n);
    }

    /** "s (one at most), k (1 .. 6), b (none to 8), in any order"; "STEPS .. 1 to 16". */
    private static void clausesAtMost() {
        String sixKinds = times("k;", 6);
        String eightBoxes = times("b;", 8);
        goesOn(0, times("k;", 5), "skb ");
        goesOn(0, sixKinds, "sb ");
        goesOn(0, "s;" + sixKinds, "b ");
        goesOn(0, times("b;", 7), "skb ");
        goesOn(0, eightBoxes, "sk ");
        goesOn(0, eightBoxes + "s;", "k ");
        goesOn(0, eightBoxes + sixKinds, "s ");
        goesOn(0, eightBoxes + "s;" + sixKinds, " ");
        goesOn(2, times("t0;", 14), "ptlmc ");
        goesOn(2, times("t0;", 14) + "t0", "; ");
        goesOn(2, times("t0;", 15), "ptlmc ");
        goesOn(2, times("t0;", 15) + "c12", " ");
        goesOn(2, times("t0;", 15) + "c1", DIGITS + " ");
        for (int kinds = 1; kinds <= 6; kinds++) {
            for (int boxes = 0; boxes <= 8; boxes++) {
                FrostBox x = new FrostBox();
                String text = times("b;", boxes) + "s;" + times("k;", kinds - 1) + "k";
                Check.due("kinds of " + text, Check.tell(x, 0, text), kinds);
                Check.due("boxes of " + text, x.count(1), boxes);
            }
        }
        for (int steps = 1; steps <= 16; steps++) {
            FrostBox x = new FrostBox();
            Check.due("a plan of " + steps, Check.tell(x, 2, times("t0;", steps - 1) + "l7"), 0);
            Check.due("its last step", x.step(0, steps - 1, 1), 7);
            Check.due("none behind it", x.step(0, steps, 0), Check.HIDDEN);
        }
        FrostBox y = Check.house("k;bn1;bn2;bn3");
        Check.boxes("the first is the lowest", y, 1, 3, 2, 1);
        Check.boxes("so many lie below", y, 6, 2, 1, 0);
        // Without a kind it ends too early, wherever it ends.
        for (String text : new String[] {"s", "b", "s;b", "b;s", "s;b;b", eightBoxes + "s", "s "}) {
            Check.faults(0, text, text.length());
        }
    }

    /** "with a KIND that is not told, that GOES with one that is not told": at the length. */
    private static void kindsNotTold() {
        for (int kinds = 1; kinds <= 6; kinds++) {
            for (int kind = 0; kind <= 6; kind++) {
                String going = "kg" + kind + times(";k", kinds - 1);
                Check.faults(0, going, kind < kinds || kind == 6 ? Check.NONE : going.length());
                String goingLast = times("k;", kinds - 1) + "kg" + kind + " ";
                Check.faults(0, goingLast, kind < kinds || kind == 6 ? Check.NONE : goingLast.length());
                if (kind < 6) {
                    String box = "bk" + kind + times(";k", kinds);
                    Check.faults(0, box, kind < kinds ? Check.NONE : box.length());
                    String lastBox = times("k;", kinds) + "b;bk" + kind;
                    Check.faults(0, lastBox, kind < kinds ? Check.NONE : lastBox.length());
                }
            }
        }
    }

    /** "or more PORTIONS than ROOM": at the length. */
    private static void portionsAndRoom() {
        for (int portions = 1; portions <= 72; portions++) {
            StringBuilder boxes = new StringBuilder("k");
            for (int left = portions; left > 0; left -= 9) {
                boxes.append(";bn").append(Math.min(9, left));
            }
            Check.faults(0, "sr" + portions + ";" + boxes, Check.NONE);
            if (portions > 1) {
                String text = boxes + ";sr" + (portions - 1);
                Check.faults(0, text, text.length());
                Check.faults(0, text + ";s", text.length() + 1);
            }
            Check.faults(0, boxes.toString(), portions <= 40 ? Check.NONE : boxes.length());
        }
        FrostBox x = Check.house("sr72;k" + times(";bn9", 8));
        Check.due("72 portions", x.count(7), 72);
    }

    // ---- blanks

    /** "Blanks (32) may stand between all signs of these, not within numbers (between digits of a STEP they may)". */
    private static void blanks() {
        int[] sorts = {0, 1, 2};
        String[][] signs = {
            {"s", "r", "99", "h", "24", ";", "k", "c", "5", "o", "36", "w", "09", ";", "b", "a", "10", "n", "9"},
            {"y", ":", "!", "(", "a", "=", "1234", "&", "[", "o", "]", "<", "0", ")", "?", "m", "*", "99", ";", "y", ":", "n"},
            {"p", "1", "2", "1", ";", "c", "0", "7", ";", "t", "3", ";", "l", "0", ";", "m", "9"}};
        for (int sort : sorts) {
            String[] all = signs[sort];
            Check.faults(sort, String.join("", all), Check.NONE);
            Check.faults(sort, String.join(" ", all), Check.NONE);
            Check.faults(sort, "  " + String.join("  ", all) + "   ", Check.NONE);
            for (int i = 0; i <= all.length; i++) {
                String ahead = String.join("", Arrays.copyOfRange(all, 0, i));
                String behind = String.join("", Arrays.copyOfRange(all, i, all.length));
                Check.faults(sort, ahead + " " + behind, Check.NONE);
                for (char other : new char[] {9, 10, 13, 31, 35, 95, 160}) {
                    Check.faults(sort, ahead + other + behind, i == 0 ? 0 : ahead.length());
                }
                if (i < all.length && all[i].length() > 1) {
                    // A blank within a number ends it; the digit behind it can't be.
                    String split = ahead + all[i].charAt(0) + " " + all[i].substring(1);
                    boolean lost = all[i].charAt(0) == '0';
                    Check.faults(sort, split, lost ? ahead.length() : ahead.length() + 2);
                }
            }
        }
    }

    // ---- "At most six of ( [ ! within one another"; "a seventh of ( [ ! in a LAW at it"

    private static void nestings() {
        List<String> opened = new ArrayList<>();
        opened.add("");
        int seen = 0;
        while (seen < opened.size()) {
            String nest = opened.get(seen);
            seen++;
            if (!nest.isEmpty()) {
                nested(nest);
            }
            if (nest.length() < 7) {
                if (!nest.endsWith("[")) {
                    opened.add(nest + "(");
                    opened.add(nest + "!");
                }
                opened.add(nest + "[");
            }
        }
        Check.due("nestings tried", seen, 1 + 3 + 7 + 15 + 31 + 63 + 127 + 255);
        // Side by side there may be more.
        Check.faults(1, "y:" + times("[a]+", 20) + "[a]", Check.NONE);
        Check.faults(1, "y:" + times("(a=1)&", 20) + "(a=1)?1", Check.NONE);
        Check.faults(1, "y:" + times("!a=1|", 20) + "!a=1?1", Check.NONE);
        Check.faults(1, "y:" + times("!!!!!!a=1|", 5) + "!!!!!!!a=1?1", 2 + 50 + 6);
        Check.faults(1, "y:[[[[[[a]]]]]]=[[[[[[a]]]]]]&((((((a=1))))))?[[[[[[a]]]]]];y:[[[[[[a]]]]]]", Check.NONE);
        Check.faults(1, "y:a=1?[[[[[[a]]]]]+[[[[[a]]]]]]", Check.NONE);
        Check.faults(1, "y:a=1?[[[[[[a]]]]]+[[[[[[a]]]]]]]", 24);
    }

    private static void nested(String nest) {
        StringBuilder closing = new StringBuilder();
        StringBuilder closingConditions = new StringBuilder();
        for (int i = nest.length() - 1; i >= 0; i--) {
            if (nest.charAt(i) == '[') {
                closing.append(']');
            } else if (nest.charAt(i) == '(') {
                closingConditions.append(')');
            }
        }
        int want = nest.length() <= 6 ? Check.NONE : 6;
        // Sums close before the comparison, conditions behind it.
        String condition = nest + "a" + closing + "=1" + closingConditions;
        Check.faults(1, "y:" + condition + "?1", want == Check.NONE ? want : 2 + want);
        Check.faults(1, "y:o=2&" + condition + "?1", want == Check.NONE ? want : 6 + want);
        Check.faults(1, "y:m;y:o>2|" + condition + "?1", want == Check.NONE ? want : 10 + want);
        if (closingConditions.isEmpty() && nest.indexOf('!') < 0) {
            Check.faults(1, "y:" + nest + "a" + closing, want == Check.NONE ? want : 2 + want);
            Check.faults(1, "y:a=1?" + nest + "a" + closing, want == Check.NONE ? want : 6 + want);
            Check.faults(1, "y:a<" + nest + "a" + closing + "?1", want == Check.NONE ? want : 4 + want);
            Check.faults(1, "y:a*" + nest + "a" + closing, want == Check.NONE ? want : 4 + want);
        }
    }

    // ---- texts as long as the tape can hold

    private static String padded(String text) {
        return text + times(" ", 240 - text.length());
    }

    /** The loss of a portion by a law, for a box of the age told, worth 9. */
    private static int loss(String law, int age) {
        FrostBox x = Check.house("ko36p9;bn1a" + age);
        Check.withLaw(x, law);
        return 9 - Check.box(x, 0, 4);
    }

    private static void longTexts() {
        Check.due("118 sums", loss(padded("y:0" + times("+0", 117) + "+7"), 0), 7);
        Check.due("118 products", loss(padded("y:1" + times("*1", 117) + "*7"), 0), 7);
        Check.due("118 divisions", loss(padded("y:8" + times("/1", 117) + "/2"), 0), 4);
        Check.due("117 ages", loss(padded("y:a" + times("+a", 116) + "-116"), 1), 1);
        String sums = padded("y:a" + times("+a", 108) + "=109?3;y:4");
        Check.due("109 ages in a condition", loss(sums, 1), 3);
        Check.due("not so", loss(sums, 2), 4);
        String clauses = padded(times("y:a=9?1;", 29) + "y:5");
        Check.due("thirty clauses, the last", loss(clauses, 0), 5);
        Check.due("thirty clauses, the first", loss(clauses, 9), 1);
        Check.due("sixty clauses", loss(padded("y:1;" + times("y:2;", 58) + "y:3"), 0), 1);
        String all = padded("y:a=0" + times("&a=0", 57) + "?3;y:4");
        Check.due("58 truths, all so", loss(all, 0), 3);
        Check.due("58 truths, none so", loss(all, 1), 4);
        String one = padded("y:a=9" + times("|a=9", 56) + "|a=1?3;y:4");
        Check.due("58 truths, the last so", loss(one, 1), 3);
        Check.due("58 truths, not one", loss(one, 2), 4);
        Check.due("58 truths, each but the last", loss(one, 9), 3);
        Check.faults(1, times("y:1;", 60), 240);
        Check.faults(1, times(" ", 240), 240);
        Check.faults(1, times(" ", 237) + "y:1", Check.NONE);
        Check.faults(0, times(" ", 239) + "k", Check.NONE);
        Check.faults(0, times(" ", 239) + "x", 239);
        Check.faults(0, times(" ", 240), 240);
        Check.faults(2, times(" ", 238) + "t0", Check.NONE);
        Check.faults(2, padded(times("p121;", 15) + "p121"), Check.NONE);
        Check.faults(2, times("t0;", 15) + times(" ", 193) + "m3", Check.NONE);
        Check.faults(2, times("t0;", 15) + "m3" + times(" ", 192) + ";", 239);
        String full = "sr99h24l99e5" + times(";kc5w9o36p9g5", 6) + times(";bk5n9a99l1", 8);
        Check.faults(0, full, Check.NONE);
        Check.faults(0, padded(full), Check.NONE);
        // Operands that wait for others, on every level.
        Check.due("deep", loss("y:a=9|a=1&1<9-2*[9-2*[9-2*[9-2*[9-2*[9-2*[0-a]]]]]]?2;y:3", 1), 3);
        Check.due("deep conditions", loss("y:a=9|a=1&(a=9|a=1&(a=9|a=1&(a=9|a=1&(a=9|a=1&3=1+2*[0+1*a]))))?2;y:3", 1), 2);
    }

    // ---- "LAWS (4 at most)", "PLANS (4 at most)"

    private static void fourOfEach() {
        FrostBox x = Check.house("kp9;bn1");
        for (int i = 0; i < 4; i++) {
            Check.due("laws so far", x.count(2), i);
            Check.due("no law yet", x.law(i), false);
            Check.due("law", Check.tell(x, 1, "y:" + (i + 1)), i);
            Check.due("plans so far", x.count(3), i);
            Check.due("no plan yet", x.run(i, 0), Check.HIDDEN);
            Check.due("plan", Check.tell(x, 2, "m" + (i + 1)), i);
        }
        Check.due("a fifth law", Check.tell(x, 1, "y:9"), Check.NONE);
        Check.due("its tape stays", x.count(4), 3);
        Check.due("laws", x.count(2), 4);
        Check.due("no fifth law", x.law(4), false);
        Check.due("a fifth plan", Check.tell(x, 2, "m9"), Check.NONE);
        Check.due("its tape stays, too", x.count(4), 2);
        Check.due("plans", x.count(3), 4);
        Check.due("no fifth plan", x.step(4, 0, 0), Check.HIDDEN);
        Check.due("a fifth with a fault", Check.tell(x, 2, "mm"), Check.NONE);
        for (int i = 0; i < 4; i++) {
            Check.due("the law is told", x.law(i), true);
            Check.due("and as it was told", Check.box(x, 0, 4), 9 - (i + 1));
            Check.due("so is the plan", x.step(i, 0, 1), i + 1);
        }
        // A new house leaves them, and leaves no more room for others.
        Check.tell(x, 0, "kp9;bn2");
        Check.due("the law that held holds", x.count(8), 2 * 5);
        Check.due("still no fifth law", Check.tell(x, 1, "y:9"), Check.NONE);
        Check.due("still no fifth plan", Check.tell(x, 2, "m9"), Check.NONE);
    }

    // ---- "a number (1 to 4 digits)"; "numbers are within -1,000,000 .. 1,000,000"; "/ cuts towards 0, by 0 gives 0"

    /** Whether the law finds both alike, for a box of age 7. */
    private static void alike(String left, String right) {
        Check.due(left + " is " + right, loss("y:" + left + "=" + right + "?1;y:2", 7), 1);
    }

    private static void lawNumbers() {
        alike("0000", "0");
        alike("0009", "9");
        alike("9999-9998", "1");
        // At 1,000,000, one below and what would be beyond; so, too, below 0.
        alike("1000*1000/1000", "1000");
        alike("1000*1000-1", "999*1001");
        alike("999*1001+1", "1000*1000");
        alike("999*1001+2", "1000*1000");
        alike("1000*1000+1", "1000*1000");
        alike("1001*1000", "1000*1000");
        alike("[0-1000]*1000/1000", "0-1000");
        alike("0-1000*1000+1", "0-999*1001");
        alike("0-999*1001-1", "[0-1000]*1000");
        alike("0-999*1001-2", "[0-1000]*1000");
        alike("0-1000*1000-1", "[0-1000]*1000");
        alike("1001*[0-1000]", "[0-1000]*1000");
        // Behind each sign, so the order of signs tells.
        alike("9999*9999*9999*9999*9999", "1000*1000");
        alike("[0-9999]*9999*9999", "[0-1000]*1000");
        alike("[0-9999]*[0-9999]", "1000*1000");
        alike("9999*9999/9999", "100");
        alike("9999*9999-9999*9999", "0");
        alike("9999*9999+9999-9999", "999*1001+1-9999");
        alike("9999-9999*9999", "9999-1000*1000");
        alike("9999+[9999-9999*9999]", "9999+9999-1000*1000");
        // Cut towards 0, by 0 gives 0.
        alike("7/2", "3");
        alike("[0-7]/2", "0-3");
        alike("7/[0-2]", "0-3");
        alike("[0-7]/[0-2]", "3");
        alike("[0-1]/2", "0");
        alike("1/[0-2]", "0");
        alike("7/0", "0");
        alike("0/0", "0");
        alike("[0-7]/0", "0");
        alike("7/[a-7]+1", "1");
        alike("1000*1000/[0-1]", "[0-1000]*1000");
        alike("[0-1000]*1000/[0-1]", "1000*1000");
        // The first clause whose condition holds, or has none; 0 without.
        Check.due("the first that holds", loss("y:a=1?1;y:a=7?2;y:a=7?3;y:4", 7), 2);
        Check.due("the first without one", loss("y:a=1?1;y:4;y:a=7?2", 7), 4);
        Check.due("none holds", loss("y:a=1?1;y:a=2?2", 7), 0);
        // Held within 0 .. 9.
        int[] worths = {-1000, -2, -1, 0, 1, 8, 9, 10, 11, 1000};
        for (int worth : worths) {
            String law = worth < 0 ? "y:0-" + -worth : "y:" + worth;
            Check.due("loss by " + law, loss(law, 0), Math.max(0, Math.min(9, worth)));
        }
    }

    // ---- "p and three digits (KIND, PORTIONS 0 .. 9, 0 or 1 ..), t and a digit .., c and two digits"

    private static void step(String text, int sort, int first, int second, int third) {
        FrostBox x = new FrostBox();
        Check.due("the plan " + text, Check.tell(x, 2, text), 0);
        int[] want = {sort, first, second, third};
        for (int what = 0; what < 4; what++) {
            Check.due("step(0, 0, " + what + ") of " + text, x.step(0, 0, what), want[what]);
        }
    }

    private static void stepDigits() {
        for (int n = 0; n < 100; n++) {
            String two = "" + n / 10 + n % 10;
            step("c" + two, 4, n, Check.NONE, Check.NONE);
            step("p" + two + "0", 0, n / 10, n % 10, 0);
            step("p" + two + "1", 0, n / 10, n % 10, 1);
            for (int third = 2; third < 10; third++) {
                Check.faults(2, "p" + two + third, 3);
            }
            Check.faults(2, "c" + two + n % 10, 3);
        }
        for (int n = 0; n < 10; n++) {
            step("t" + n, 1, n, Check.NONE, Check.NONE);
            step("l" + n, 2, n, Check.NONE, Check.NONE);
            step("m" + n, 3, n, Check.NONE, Check.NONE);
        }
    }

    // ---- "(the length, if it ends too early ..)"; "bytes of 0 are left out"; "NONE: more than 240"

    private static void tapeOfNothing() {
        FrostBox x = new FrostBox();
        for (int sort = 0; sort < 3; sort++) {
            Check.due("fault(" + sort + ") of nothing", x.fault(sort), 0);
            Check.due("text(" + sort + ") of nothing", x.text(sort), Check.NONE);
        }
        for (int sort : new int[] {-1, 3, 100, Integer.MIN_VALUE, Integer.MAX_VALUE}) {
            Check.due("fault(" + sort + ")", x.fault(sort), -2);
            Check.due("text(" + sort + ")", x.text(sort), Check.NONE);
        }
        Check.due("bytes of 0", x.feed(0, 0, 0, 0, 0), 0);
        Check.due("the lowest byte of the last", x.feed(0, 0, 0, 0, 'k'), 1);
        Check.due("one byte in each", x.feed(';', ' ' << 8, ' ' << 16, 'k' << 24, 0), 5);
        Check.due("read in their order", x.text(0), 2);
        for (int bytes = 1; bytes <= 20; bytes++) {
            FrostBox y = new FrostBox();
            int[] words = new int[5];
            for (int i = 0; i < bytes; i++) {
                words[i / 4] |= 'k' << 24 - 8 * (i % 4);
            }
            Check.due(bytes + " bytes", y.feed(words[0], words[1], words[2], words[3], words[4]), bytes);
            Check.tape(y, times(" ", 240 - bytes));
            Check.due("up to 240", y.feed(words[0], words[1], words[2], words[3], words[4]), 240);
            Check.due("to 240 and on", y.feed(0, 0, 0, 0, 1), Check.NONE);
            y.end(240 - bytes + 1);
            Check.due("beyond by one", y.feed(words[0], words[1], words[2], words[3], words[4]), Check.NONE);
            Check.due("refused, it stays", y.count(4), 240 - bytes + 1);
            Check.due("its bytes, too", y.fault(0), Check.NONE);
        }
        FrostBox z = new FrostBox();
        Check.tape(z, "k;k;k");
        for (int n : new int[] {6, 7, 240, 241, -1, Integer.MAX_VALUE, Integer.MIN_VALUE}) {
            Check.due("end(" + n + ") of five", z.end(n), false);
            Check.due("it stays", z.count(4), 5);
        }
        for (int n = 5; n >= 0; n--) {
            Check.due("end(" + n + ")", z.end(n), true);
            Check.due("so many are left", z.count(4), n);
            Check.due("the first of them", z.fault(0), n % 2 == 1 ? Check.NONE : n);
            Check.due("no more can be had back", z.end(n + 1), false);
        }
    }
}
