import java.util.Random;

/** Texts by draws: houses, laws, plans, most of them right; and texts spoilt. */
final class TextDraws {
    private TextDraws() { }

    static String of(Random draws, int sort) {
        String text = sort == 0 ? house(draws) : sort == 1 ? law(draws) : plan(draws);
        return text.length() > 240 ? text.substring(0, 240) : text;
    }

    static String spoilt(Random draws, String text) {
        StringBuilder b = new StringBuilder(text);
        String signs = "skbrhlecwopgna0123456789;y:?!()[]&|=<>+-*/ptm xz\u00e9";
        for (int times = 1 + draws.nextInt(2); times > 0; times--) {
            int at = draws.nextInt(b.length() + 1);
            char sign = signs.charAt(draws.nextInt(signs.length()));
            int how = draws.nextInt(4);
            if (how == 0 && b.length() < 240) {
                b.insert(at, sign);
            } else if (how == 1 && at < b.length()) {
                b.setCharAt(at, sign);
            } else if (how == 2 && at < b.length()) {
                b.deleteCharAt(at);
            } else {
                b.setLength(at);
            }
        }
        return b.toString();
    }

    private static String blank(Random draws) {
        return draws.nextInt(25) == 0 ? " " : "";
    }

    private static int within(Random draws, int least, int most) {
        int beyond = draws.nextInt(300) == 0 ? 1 : 0;
        return least + draws.nextInt(most - least + 1) + beyond;
    }

    private static void item(Random draws, StringBuilder b, char letter, int least, int most) {
        if (draws.nextInt(4) > 0) {
            b.append(blank(draws)).append(letter).append(blank(draws));
            int value = within(draws, least, most);
            b.append(value < 10 && draws.nextInt(20) == 0 ? "0" : "").append(value).append(blank(draws));
        }
    }

    private static String house(Random draws) {
        StringBuilder b = new StringBuilder(blank(draws));
        if (draws.nextInt(3) > 0) {
            b.append("s");
            item(draws, b, 'r', 20, 99);
            item(draws, b, 'h', 0, 24);
            item(draws, b, 'l', 1, draws.nextBoolean() ? 5 : 99);
            item(draws, b, 'e', 0, 5);
            b.append(';');
        }
        int kinds = draws.nextInt(50) == 0 ? 7 : 1 + draws.nextInt(6);
        int colours = draws.nextInt(6);
        int weights = 1 + draws.nextInt(9);
        for (int i = 0; i < kinds; i++) {
            b.append(i > 0 ? ";" : "").append(blank(draws)).append('k');
            item(draws, b, 'o', 1, draws.nextBoolean() ? 6 : 36);
            item(draws, b, 'c', 0, colours);
            item(draws, b, 'w', 1, weights);
            item(draws, b, 'p', 0, 9);
            if (draws.nextBoolean()) {
                item(draws, b, 'g', 0, kinds - 1);
            }
        }
        int boxes = draws.nextInt(50) == 0 ? 9 : draws.nextInt(9);
        for (int i = 0; i < boxes; i++) {
            b.append(";b");
            item(draws, b, 'k', 0, kinds - 1);
            item(draws, b, 'n', 1, draws.nextInt(20) == 0 ? 9 : 4);
            item(draws, b, 'l', 0, 1);
            item(draws, b, 'a', 0, draws.nextInt(4) == 0 ? 99 : 9);
        }
        return b.toString();
    }

    private static String law(Random draws) {
        StringBuilder b = new StringBuilder();
        for (int i = 1 + draws.nextInt(3); i > 0; i--) {
            b.append(b.length() > 0 ? ";" : "").append(blank(draws)).append("y").append(blank(draws)).append(":");
            if (draws.nextInt(3) > 0) {
                condition(draws, b, 0);
                b.append("?");
            }
            sum(draws, b, 0);
        }
        return b.toString();
    }

    private static void condition(Random draws, StringBuilder b, int depth) {
        unit(draws, b, depth);
        while (draws.nextInt(4) == 0) {
            b.append(draws.nextBoolean() ? '&' : '|').append(blank(draws));
            unit(draws, b, depth);
        }
    }

    private static void unit(Random draws, StringBuilder b, int depth) {
        int how = draws.nextInt(depth < 7 ? 4 : 50);
        if (how == 0) {
            b.append('!').append(blank(draws));
            unit(draws, b, depth + 1);
        } else if (how == 1) {
            b.append('(');
            condition(draws, b, depth + 1);
            b.append(')').append(blank(draws));
        } else {
            sum(draws, b, depth);
            b.append("=<>".charAt(draws.nextInt(3)));
            sum(draws, b, depth);
        }
    }

    private static void sum(Random draws, StringBuilder b, int depth) {
        atom(draws, b, depth);
        while (draws.nextInt(3) == 0) {
            b.append("+-*/*/+-".charAt(draws.nextInt(8))).append(blank(draws));
            atom(draws, b, depth);
        }
    }

    private static void atom(Random draws, StringBuilder b, int depth) {
        int how = draws.nextInt(depth < 7 ? 8 : 60);
        if (how == 0) {
            b.append('[');
            sum(draws, b, depth + 1);
            b.append(']');
        } else if (how < 4) {
            b.append(draws.nextInt(8) == 0 ? draws.nextInt(10000) : draws.nextInt(12));
        } else {
            b.append("aonykm".charAt(draws.nextInt(6))).append(blank(draws));
        }
    }

    private static String plan(Random draws) {
        StringBuilder b = new StringBuilder();
        for (int i = draws.nextInt(30) == 0 ? 17 : 1 + draws.nextInt(7); i > 0; i--) {
            b.append(b.length() > 0 ? ";" : "").append(blank(draws));
            switch (draws.nextInt(5)) {
                case 0:
                    b.append('p').append(draws.nextInt(4)).append(blank(draws)).append(draws.nextInt(5));
                    b.append(draws.nextInt(2));
                    break;
                case 1: b.append('t').append(draws.nextInt(4)); break;
                case 2: b.append('l').append(draws.nextInt(4)); break;
                case 3: b.append('m').append(draws.nextInt(6)); break;
                default: b.append('c').append(draws.nextInt(3)).append(blank(draws)).append(draws.nextInt(10));
            }
        }
        return b.toString();
    }
}
