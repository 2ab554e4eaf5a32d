import java.util.Random;

/** Texts of orders, most of them sound, some with a fault put in. */
final class TextMaker {
    private TextMaker() {
    }

    static String make(Random dice, int kinds) {
        StringBuilder b = new StringBuilder();
        blanks(dice, b, 0);
        for (int k = dice.nextInt(9); k > 0; k--) {
            order(dice, b, kinds);
            blanks(dice, b, 0);
        }
        int spoils = dice.nextInt(3) == 0 ? 1 + dice.nextInt(2) : 0;
        for (int k = 0; k < spoils && b.length() > 0; k++) {
            spoil(dice, b);
        }
        return b.toString();
    }

    private static void order(Random dice, StringBuilder b, int kinds) {
        char kind = "flbewtksx".charAt(dice.nextInt(9));
        b.append(kind);
        switch (kind) {
            case 'f':
                number(dice, b, 3);
                letters(dice, b, 1 + dice.nextInt(dice.nextInt(8) == 0 ? 7 : 2), kinds);
                break;
            case 'l':
                letters(dice, b, dice.nextInt(dice.nextInt(8) == 0 ? 44 : 9), kinds);
                break;
            case 'w':
                number(dice, b, 3);
                blanks(dice, b, 1);
                number(dice, b, 15);
                break;
            case 'k':
                number(dice, b, 39);
                blanks(dice, b, 1);
                number(dice, b, 2);
                break;
            default:
                number(dice, b, kind == 't' ? 40 : kind == 's' ? 2 : kind == 'x' ? 3 : 15);
        }
        blanks(dice, b, 0);
        b.append(';');
    }

    private static void blanks(Random dice, StringBuilder b, int least) {
        int count = least + (dice.nextInt(3) == 0 ? 1 + dice.nextInt(2) : 0);
        for (int k = 0; k < count; k++) {
            b.append(' ');
        }
    }

    private static void number(Random dice, StringBuilder b, int most) {
        blanks(dice, b, 0);
        int v = dice.nextInt(25) == 0 ? dice.nextInt(100) : dice.nextInt(most + 1);
        if (v < 10 && dice.nextInt(6) == 0) {
            b.append('0');
        }
        b.append(v);
    }

    private static void letters(Random dice, StringBuilder b, int count, int kinds) {
        blanks(dice, b, 0);
        for (int k = 0; k < count; k++) {
            b.append("aebhcdfg".charAt(dice.nextInt(kinds)));
        }
    }

    private static void spoil(Random dice, StringBuilder b) {
        int at = dice.nextInt(b.length());
        char c = dice.nextBoolean() ? "flbewtksxahi; 0129".charAt(dice.nextInt(18)) : (char) dice.nextInt(128);
        switch (dice.nextInt(3)) {
            case 0: b.setCharAt(at, c); break;
            case 1: b.insert(at, c); break;
            default: b.deleteCharAt(at);
        }
    }
}
