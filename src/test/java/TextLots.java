import java.util.Random;

/** Texts by lot: right ones for the most part, some with a byte or two gone wrong. */
final class TextLots {
    private static final String[] KEYS = {"sway", "fee", "fine"};
    private static final String[] NAMES = {"frp", "rw", "fw"};
    private static final String[] SIGNS = {"|", "&", "<", "=", ">", "+", "-", "*", "/"};

    private TextLots() {
    }

    static String text(Random lot) {
        int key = lot.nextInt(3);
        StringBuilder text = new StringBuilder(blanks(lot)).append(KEYS[key]).append(' ');
        text.append(expression(lot, key, lot.nextInt(5)));
        text.append(blanks(lot));
        if (lot.nextInt(8) == 0) {
            String deep = lot.nextBoolean() ? "!(" : lot.nextBoolean() ? "(" : "!";
            int times = 7 + lot.nextInt(3);
            boolean opens = deep.endsWith("(");
            text = new StringBuilder(KEYS[key]).append(' ').append(deep.repeat(times))
                    .append("1").append(opens ? ")".repeat(times) : "");
        }
        for (int i = lot.nextInt(3) == 0 ? 1 + lot.nextInt(2) : 0; i > 0; i--) {
            spoil(lot, text);
        }
        if (text.length() > 96) {
            text.setLength(96);
        }
        return text.toString();
    }

    private static void spoil(Random lot, StringBuilder text) {
        int at = lot.nextInt(text.length() + 1);
        int sort = lot.nextInt(4);
        if (sort == 0 && at < text.length()) {
            text.deleteCharAt(at);
        } else if (sort == 1) {
            text.insert(at, "|&<=>+-*/!()0129afrpwz AZ{`:".charAt(lot.nextInt(28)));
        } else if (sort == 2) {
            text.insert(at, (char) lot.nextInt(256));
        } else {
            text.setLength(at);
        }
    }

    private static String expression(Random lot, int key, int depth) {
        int sort = depth == 0 ? lot.nextInt(2) : 2 + lot.nextInt(6);
        switch (sort) {
            case 0:
                return String.valueOf(lot.nextInt(lot.nextBoolean() ? 10 : 10000));
            case 1:
                return String.valueOf(NAMES[key].charAt(lot.nextInt(NAMES[key].length())));
            case 2:
                return "!" + blanks(lot) + expression(lot, key, depth - 1);
            case 3:
                return "(" + blanks(lot) + expression(lot, key, depth - 1) + blanks(lot) + ")";
            default:
                return expression(lot, key, lot.nextInt(depth)) + blanks(lot) + SIGNS[lot.nextInt(SIGNS.length)]
                        + blanks(lot) + expression(lot, key, depth - 1);
        }
    }

    private static String blanks(Random lot) {
        return " ".repeat(lot.nextInt(4) == 0 ? 1 + lot.nextInt(2) : 0);
    }
}
