import java.util.NoSuchElementException;

/** What the tests share: texts put on the tape, answers compared. */
final class Check {
    static final int NONE = FrostBox.NONE;
    static final int HIDDEN = FrostBox.HIDDEN;
    static final int THROWN = Integer.MIN_VALUE;
    private static int wrong;
    private static int asked;

    private Check() { }

    static void due(String call, long got, long want) {
        asked++;
        if (got != want) {
            wrong++;
            System.out.println(call + " answered " + got + ", due is " + want);
        }
    }

    static void due(String call, boolean got, boolean want) {
        due(call, got ? 1 : 0, want ? 1 : 0);
    }

    /** Puts the text alone on the tape. */
    static void tape(FrostBox x, String text) {
        x.end(0);
        for (int start = 0; start < text.length(); start += 20) {
            int[] words = new int[5];
            for (int i = 0; i < 20; i++) {
                int sign = start + i < text.length() ? text.charAt(start + i) : 0;
                words[i / 4] = words[i / 4] << 8 | sign;
            }
            x.feed(words[0], words[1], words[2], words[3], words[4]);
        }
    }

    static int tell(FrostBox x, int sort, String text) {
        tape(x, text);
        return x.text(sort);
    }

    static FrostBox house(String text) {
        FrostBox x = new FrostBox();
        if (tell(x, 0, text) == NONE) {
            due("text(0) of " + text, 0, 1);
        }
        return x;
    }

    /** A house behind so many months. */
    static FrostBox atMonth(String text, int month) {
        FrostBox x = house(text);
        for (int left = month; left > 0; left -= 60) {
            x.months(Math.min(60, left));
        }
        due("the month of " + text, x.count(6), month);
        return x;
    }

    static void withLaw(FrostBox x, String text) {
        int law = tell(x, 1, text);
        due("law told: " + text, law != NONE && x.law(law), true);
    }

    static void faults(int sort, String text, int want) {
        FrostBox x = new FrostBox();
        tape(x, text);
        due("fault(" + sort + ") of " + text, x.fault(sort), want);
        due("fault leaves the tape of " + text, x.count(4), text.length());
    }

    static int box(FrostBox x, int box, int what) {
        try {
            return x.box(box, what);
        } catch (NoSuchElementException e) {
            return THROWN;
        }
    }

    /** What is told of all boxes, the top one first. */
    static int[] all(FrostBox x, int what) {
        int[] told = new int[Math.max(0, x.count(1))];
        for (int i = 0; i < told.length; i++) {
            told[i] = box(x, i, what);
        }
        return told;
    }

    /** Compares what is told of all boxes, the top one first. */
    static void boxes(String call, FrostBox x, int what, int... want) {
        int[] got = all(x, what);
        due(call + ": how many", got.length, want.length);
        for (int i = 0; i < want.length && i < got.length; i++) {
            due(call + ": box(" + i + ", " + what + ")", got[i], want[i]);
        }
    }

    static void finish(String name) {
        System.out.println(name + ": " + asked + " answers, " + wrong + " wrong");
        if (wrong != 0) {
            System.exit(1);
        }
    }
}
