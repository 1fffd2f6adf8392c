import java.util.ArrayDeque;
import java.util.ArrayList;
import java.util.Deque;
import java.util.HashMap;
import java.util.HashSet;
import java.util.List;
import java.util.Map;
import java.util.Random;
import java.util.Set;

/**
 * "FAULT: the first byte at which no such TEXT can go on", taken by the word: all ways in which a text of the sort may
 * go on are kept side by side, byte by byte; the fault is where none is left. Nothing here decides for one way, as a
 * reader that goes through the text once must.
 *
 * A way is a list of what is still to come. Its parts:
 * 'abc  one of these signs; #k  up to k more digits of the number begun; Name d  what the document's Terms call so, d deep.
 */
public final class GoesOnTest {
    private static final String DIGITS = "0123456789";
    private static final int TEXTS = 8000;
    private static final int FITS = -1;
    private static final String FULL = "s;k;k;k;k;k;k;b;b;b;b;b;b;b;b";
    private static final Map<String, List<List<String>>> FORMS = new HashMap<>();

    private GoesOnTest() { }

    public static void main(String[] args) {
        known();
        for (int sort = 0; sort < 3; sort++) {
            drawn(sort);
        }
        shortOnes();
        Check.finish("GoesOnTest");
    }

    /** The recogniser itself, by faults that the document's words show at once. */
    private static void known() {
        String[][] rows = {
            {"0", "k", "-1"}, {"0", "", "0"}, {"0", "s", "1"}, {"0", "k;", "2"}, {"0", "s;s;k", "2"}, {"0", "kw0", "2"},
            {"0", "kw05", "-1"}, {"0", "kw10", "3"}, {"0", "kw100", "4"}, {"0", "kw1w1", "3"}, {"0", "kg1", "3"},
            {"0", FULL, "-1"}, {"0", FULL + ";", "30"}, {"0", FULL + ";b", "30"}, {"0", FULL + "; s", "31"},
            {"0", "k;bk1 ", "6"}, {"0", "sr3;k;bn4", "9"}, {"0", "k;k;k;k;k;k;k", "12"}, {"0", "b;b;b;b;b;b;b;b;b", "16"},
            {"1", "y:1", "-1"}, {"1", "y:12345", "6"}, {"1", "y:a>1", "5"}, {"1", "y:(a)=1", "4"}, {"1", "y:a?1", "3"},
            {"1", "y:[[[[[[[a", "8"}, {"1", "y:!!!!!!!a=1", "8"}, {"1", "y:!([!([a]=1)", "5"}, {"1", "y:1 2", "4"},
            {"2", "p01 1", "-1"}, {"2", "p012", "3"}, {"2", "t", "1"}, {"2", "c5", "2"}, {"2", "m12", "2"}};
        for (String[] row : rows) {
            int sort = Integer.parseInt(row[0]);
            Check.due("the fault of " + row[1] + " by its words", faultOf(sort, row[1]), Integer.parseInt(row[2]));
            compare(sort, row[1]);
        }
    }

    private static void drawn(int sort) {
        Random draws = new Random(1000 + sort);
        for (int i = 0; i < TEXTS; i++) {
            String text = TextDraws.of(draws, sort);
            compare(sort, i % 3 == 0 ? text : TextDraws.spoilt(draws, text));
        }
    }

    /** Every text of up to three of these signs behind some beginnings. */
    private static void shortOnes() {
        String[] begun = {"", "k;bn", "y:", "y:!(a", "y:[a", "p", "c1;t"};
        int[] sorts = {0, 0, 1, 1, 1, 2, 2};
        String[] signs = {"skbwn01;9 ", "1;0 a9k", "a1=!([?+ ", "=1)|&?(", "]+*1a[=", "01;2p ", "0t;c1 "};
        for (int i = 0; i < begun.length; i++) {
            followed(sorts[i], begun[i], signs[i], 3);
        }
    }

    private static void followed(int sort, String text, String signs, int more) {
        compare(sort, text);
        for (int i = 0; i < signs.length() && more > 0; i++) {
            followed(sort, text + signs.charAt(i), signs, more - 1);
        }
    }

    private static void compare(int sort, String text) {
        FrostBox x = new FrostBox();
        Check.tape(x, text);
        Check.due("fault(" + sort + ") of '" + text + "'", x.fault(sort), faultOf(sort, text));
    }

    // ---- all ways side by side

    /** What is still to come of a text, part by part. */
    private record Way(String part, Way rest) { }

    private static final Way END = new Way("", null);

    private static int faultOf(int sort, String text) {
        String start = sort == 0 ? "House 0 0 0" : sort == 1 ? "Law 0" : "Plan 1";
        Set<Way> ways = opened(List.of(new Way(start, END)));
        for (int i = 0; i < text.length(); i++) {
            List<Way> next = new ArrayList<>();
            for (Way way : ways) {
                goOn(way, text, i, next);
            }
            ways = opened(next);
            if (ways.isEmpty()) {
                return i;
            }
        }
        boolean whole = false;
        for (Way way : ways) {
            whole |= way.equals(END) || way.part.startsWith("#") && opened(List.of(way.rest)).contains(END);
        }
        return whole && (sort != 0 || holdsTogether(text)) ? FITS : text.length();
    }

    private static void goOn(Way way, String text, int i, List<Way> next) {
        char sign = text.charAt(i);
        boolean digit = DIGITS.indexOf(sign) >= 0;
        if (way.part.startsWith("#")) {
            int left = Integer.parseInt(way.part.substring(1));
            if (digit && left > 0) {
                next.add(new Way("#" + (left - 1), way.rest));
            } else if (!digit) {
                for (Way other : opened(List.of(way.rest))) {
                    goOn(other, text, i, next);
                }
            }
        } else if (way.part.startsWith("Number")) {
            number(way, text, i, next);
        } else if (sign == ' ') {
            next.add(way);
        } else if (way.part.indexOf(sign, 1) > 0) {
            next.add(way.rest);
        }
    }

    /** A number of a house: least, most, its value so far, how many digits it has. */
    private static void number(Way way, String text, int i, List<Way> next) {
        String[] told = way.part.split(" ");
        int digits = Integer.parseInt(told[4]);
        if (text.charAt(i) == ' ' && digits == 0) {
            next.add(way);
        }
        int value = Integer.parseInt(told[3]) * 10 + DIGITS.indexOf(text.charAt(i));
        if (DIGITS.indexOf(text.charAt(i)) < 0 || digits == 2) {
            return;
        }
        if (i + 1 < text.length() && DIGITS.indexOf(text.charAt(i + 1)) >= 0) {
            String part = "Number " + told[1] + " " + told[2] + " " + value + " " + (digits + 1);
            next.add(new Way(part, way.rest));
        } else if (value >= Integer.parseInt(told[1]) && value <= Integer.parseInt(told[2])) {
            next.add(way.rest);
        }
    }

    /** The ways, each name at their beginning put by all that it may be. */
    private static Set<Way> opened(List<Way> ways) {
        Set<Way> open = new HashSet<>();
        Set<Way> seen = new HashSet<>();
        Deque<Way> left = new ArrayDeque<>(ways);
        while (!left.isEmpty()) {
            Way way = left.pop();
            if (!seen.add(way)) {
                continue;
            }
            boolean named = !way.part.isEmpty() && Character.isUpperCase(way.part.charAt(0))
                    && !way.part.startsWith("Number");
            if (!named) {
                open.add(way);
                continue;
            }
            for (List<String> form : FORMS.computeIfAbsent(way.part, part -> formsOf(part.split(" ")))) {
                Way all = way.rest;
                for (int i = form.size() - 1; i >= 0; i--) {
                    all = new Way(form.get(i), all);
                }
                left.push(all);
            }
        }
        return open;
    }

    // ---- the texts, as the document's Terms tell them

    private static List<List<String>> formsOf(String[] name) {
        int deep = Integer.parseInt(name[1]);
        switch (name[0]) {
            case "House": case "Items": return houseForms(name);
            case "Law": return forms("Clause 0,MoreClauses 0");
            case "MoreClauses": return forms("", "';,Clause 0,MoreClauses 0");
            case "Clause": return forms("'y,':,Condition 0,'?,Sum 0", "'y,':,Sum 0");
            case "Condition": return forms("Truth " + deep + ",MoreTruths " + deep);
            case "MoreTruths": return forms("", "'|,Truth " + deep + ",MoreTruths " + deep);
            case "Truth": return forms("Unit " + deep + ",MoreUnits " + deep);
            case "MoreUnits": return forms("", "'&,Unit " + deep + ",MoreUnits " + deep);
            case "Unit":
                String compared = "Sum " + deep + ",'=<>,Sum " + deep;
                int more = deep + 1;
                return deep < 6 ? forms(compared, "'!,Unit " + more, "'(,Condition " + more + ",')") : forms(compared);
            case "Sum": return forms("Term " + deep + ",MoreTerms " + deep);
            case "MoreTerms": return forms("", "'+-,Term " + deep + ",MoreTerms " + deep);
            case "Term": return forms("Atom " + deep + ",MoreAtoms " + deep);
            case "MoreAtoms": return forms("", "'*/,Atom " + deep + ",MoreAtoms " + deep);
            case "Atom":
                String number = "'" + DIGITS + ",#3";
                return deep < 6 ? forms(number, "'aonykm", "'[,Sum " + (deep + 1) + ",']") : forms(number, "'aonykm");
            case "Plan": return deep < 16 ? forms("Step 0", "Step 0,';,Plan " + (deep + 1)) : forms("Step 0");
            case "Step":
                String digit = "'" + DIGITS;
                return forms("'p," + digit + "," + digit + ",'01", "'tlm," + digit, "'c," + digit + "," + digit);
            default: throw new IllegalStateException(name[0]);
        }
    }

    private static List<List<String>> forms(String... told) {
        List<List<String>> all = new ArrayList<>();
        for (String form : told) {
            all.add(form.isEmpty() ? List.of() : List.of(form.split(",")));
        }
        return all;
    }

    private static final String[] LETTERS = {"rhle", "cwopg", "knal"};
    private static final int[][] LEAST = {{1, 0, 1, 0}, {0, 1, 1, 0, 0}, {0, 1, 0, 0}};
    private static final int[][] MOST = {{99, 24, 99, 5}, {5, 9, 36, 9, 6}, {5, 9, 99, 1}};

    /** House: how many s, k, b there were. Items: of which clause, which letters there were, and the house behind. */
    private static List<List<String>> houseForms(String[] name) {
        List<List<String>> all = new ArrayList<>();
        if (name[0].equals("House")) {
            int[] most = {1, 6, 8};
            for (int sort = 0; sort < 3; sort++) {
                int[] had = {Integer.parseInt(name[1]), Integer.parseInt(name[2]), Integer.parseInt(name[3])};
                if (had[sort]++ < most[sort]) {
                    all.add(List.of("'" + "skb".charAt(sort), "Items " + sort + " - " + had[0] + " " + had[1] + " " + had[2]));
                }
            }
            // The list of faults names "a ninth b" itself, also where the ; ahead of it can't be followed by anything.
            all.add(List.of("'"));
            return all;
        }
        int sort = Integer.parseInt(name[1]);
        String house = name[3] + " " + name[4] + " " + name[5];
        for (int i = 0; i < LETTERS[sort].length(); i++) {
            char letter = LETTERS[sort].charAt(i);
            if (name[2].indexOf(letter) < 0) {
                all.add(List.of("'" + letter, "Number " + LEAST[sort][i] + " " + MOST[sort][i] + " 0 0",
                        "Items " + sort + " " + name[2] + letter + " " + house));
            }
        }
        all.add(List.of());
        all.add(List.of("';", "House " + house));
        return all;
    }

    /** Kinds that are told alone, and no more portions than room: of a text that is right but for that. */
    private static boolean holdsTogether(String text) {
        String[] clauses = text.replace(" ", "").split(";");
        int kinds = 0;
        int room = 40;
        int portions = 0;
        int needed = 1;
        for (String clause : clauses) {
            char sort = clause.charAt(0);
            kinds += sort == 'k' ? 1 : 0;
            room = sort == 's' ? item(clause, 'r', 40) : room;
            portions += sort == 'b' ? item(clause, 'n', 2) : 0;
            needed = sort == 'b' ? Math.max(needed, item(clause, 'k', 0) + 1) : needed;
            int goes = sort == 'k' ? item(clause, 'g', 6) : 6;
            needed = goes == 6 ? needed : Math.max(needed, goes + 1);
        }
        return kinds >= needed && portions <= room;
    }

    private static int item(String clause, char letter, int without) {
        int at = clause.indexOf(letter, 1);
        if (at < 0) {
            return without;
        }
        int end = at + 1;
        while (end < clause.length() && DIGITS.indexOf(clause.charAt(end)) >= 0) {
            end++;
        }
        return Integer.parseInt(clause.substring(at + 1, end));
    }
}
