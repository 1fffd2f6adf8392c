import java.lang.reflect.InvocationTargetException;
import java.lang.reflect.Method;
import java.util.ArrayList;
import java.util.List;
import java.util.Random;

/** Long runs of calls by draws (of fixed seeds), each answer compared with the Model's. */
public final class RandomRunsTest {
    private static final int RUNS = 150;
    private static final int CALLS = 512;

    private final Random draws;
    private final FrostBox box = new FrostBox();
    private final Model model = new Model();
    private final StringBuilder told = new StringBuilder();
    private final boolean thrifty;
    private int calls;
    private boolean same = true;

    private RandomRunsTest(long seed) {
        draws = new Random(seed);
        thrifty = seed % 2 == 0;
    }

    public static void main(String[] args) throws Exception {
        int wrong = 0;
        for (long seed = 1; seed <= RUNS; seed++) {
            RandomRunsTest run = new RandomRunsTest(seed);
            run.go();
            if (!run.same) {
                wrong++;
                System.out.println("seed " + seed + ":\n" + run.told);
                if (wrong == 3) {
                    break;
                }
            }
        }
        System.out.println("RandomRunsTest: " + RUNS + " runs, " + wrong + " wrong");
        if (wrong != 0) {
            System.exit(1);
        }
    }

    private void go() throws Exception {
        List<Method> methods = new ArrayList<>();
        for (Method m : Model.class.getDeclaredMethods()) {
            if (java.lang.reflect.Modifier.isPublic(m.getModifiers())) {
                methods.add(m);
            }
        }
        methods.sort((a, b) -> a.getName().compareTo(b.getName()));
        if (draws.nextInt(10) > 0) {
            tell(0);
        }
        while (calls < CALLS && same) {
            int turn = draws.nextInt(100);
            if (turn == 0) {
                tell(0);
            } else if (turn < 4) {
                tell(1 + draws.nextInt(2));
            } else if (turn < 6) {
                spoiltTape();
            } else if (turn < 8 && thrifty) {
                call("months", 1 + draws.nextInt(60));
            } else if (turn < 30) {
                call("put", draws.nextInt(4), 1 + draws.nextInt(6), draws.nextBoolean());
            } else if (turn == 31) {
                call("law", draws.nextInt(6) - 1);
            } else {
                Method m = methods.get(draws.nextInt(methods.size()));
                boolean dear = m.getName().equals("eat") && model.count(1) > 6;
                if (!dear || draws.nextInt(6) == 0) {
                    call(m.getName(), arguments(m));
                }
            }
        }
    }

    private Object[] arguments(Method m) {
        Class<?>[] types = m.getParameterTypes();
        Object[] values = new Object[types.length];
        for (int i = 0; i < types.length; i++) {
            values[i] = types[i] == long.class ? (Object) draws.nextLong()
                    : types[i] == boolean.class ? (Object) draws.nextBoolean() : (Object) number(m.getName(), i);
        }
        return values;
    }

    private int number(String name, int i) {
        if (draws.nextInt(200) == 0) {
            int[] far = {Integer.MIN_VALUE, Integer.MAX_VALUE, -2, 1000, 100, 61, -1000000, 64, 32};
            return far[draws.nextInt(far.length)];
        }
        switch (name) {
            case "months": case "years": case "monthly":
                return draws.nextInt(8) == 0 ? draws.nextInt(63) - 1 : draws.nextInt(4) + 1;
            case "off": case "costs": case "full":
                return draws.nextInt(3) == 0 ? draws.nextInt(102) - 1 : draws.nextInt(15);
            case "keep":
                return i == 0 ? draws.nextInt(30) : draws.nextInt(12) - 1;
            case "dinner":
                return i == 0 ? draws.nextInt(33) : draws.nextInt(3);
            case "history": case "share":
                return i == 0 ? digits() : draws.nextInt(20) - 1;
            case "log":
                return i == 0 ? draws.nextInt(63) - 1 : draws.nextInt(5);
            case "make":
                return i == 0 ? draws.nextInt(4) : draws.nextInt(83);
            case "count":
                return draws.nextInt(17) - 1;
            case "step":
                return i == 1 ? draws.nextInt(17) : draws.nextInt(4);
            case "feed":
                return draws.nextInt(3) == 0 ? draws.nextInt() : 0;
            case "end":
                return draws.nextInt(30);
            default:
                return draws.nextInt(10) - 1;
        }
    }

    private int digits() {
        if (draws.nextInt(20) == 0) {
            return draws.nextInt(1200000) - 100000;
        }
        int digits = 0;
        int[] tens = {100000, 10000, 1000, 100, 10, 1};
        int kinds = 1 + draws.nextInt(draws.nextInt(4) == 0 ? 6 : 3);
        for (int i = 0; i < 6; i++) {
            digits += tens[draws.nextInt(kinds)];
        }
        return digits;
    }

    private void call(String name, Object... values) throws Exception {
        if (calls >= CALLS || !same) {
            return;
        }
        calls++;
        told.append(name).append(java.util.Arrays.toString(values));
        Object due = answer(model, name, values);
        Object got = answer(box, name, values);
        told.append(" -> ").append(got).append('\n');
        if (!due.equals(got)) {
            same = false;
            told.append("    due: ").append(due).append('\n');
        }
    }

    private static Object answer(Object of, String name, Object[] values) throws Exception {
        for (Method m : of.getClass().getDeclaredMethods()) {
            if (m.getName().equals(name) && java.lang.reflect.Modifier.isPublic(m.getModifiers())) {
                try {
                    return m.invoke(of, values);
                } catch (InvocationTargetException e) {
                    return "throws " + e.getCause().getClass().getName();
                }
            }
        }
        throw new IllegalStateException(name);
    }

    private void tell(int sort) throws Exception {
        String text = TextDraws.of(draws, sort);
        if (draws.nextInt(4) == 0) {
            text = TextDraws.spoilt(draws, text);
        }
        onTape(text);
        call("fault", sort);
        call("text", sort);
    }

    private void spoiltTape() throws Exception {
        int sort = draws.nextInt(3);
        onTape(TextDraws.spoilt(draws, TextDraws.of(draws, sort)));
        call("fault", draws.nextInt(8) == 0 ? draws.nextInt(5) - 1 : sort);
    }

    private void onTape(String text) throws Exception {
        call("end", 0);
        for (int start = 0; start < text.length(); start += 20) {
            Object[] words = new Object[5];
            for (int w = 0; w < 5; w++) {
                int word = 0;
                for (int i = start + 4 * w; i < start + 4 * w + 4; i++) {
                    word = word << 8 | (i < text.length() ? text.charAt(i) : 0);
                }
                words[w] = word;
            }
            call("feed", words);
        }
    }
}
