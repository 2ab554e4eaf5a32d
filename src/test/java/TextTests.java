import java.util.Random;

/** Many short texts on fresh objects: what reads answers, against the model's regular expression. */
public final class TextTests {
    public static void main(String[] args) {
        Check check = new Check();
        Random dice = new Random(4711);
        for (int k = 0; k < 30000 && check.clean(); k++) {
            String text = k % 2 == 0 ? TextMaker.make(dice, 8) : scatter(dice);
            SungLines x = new SungLines();
            Model y = new Model();
            for (int p = 0; p < text.length() && p < 150; p++) {
                x.type(text.charAt(p));
                y.type(text.charAt(p));
            }
            check.due("reads() of '" + text + "'", x.reads(), y.reads());
            check.due("told(14) behind '" + text + "'", x.told(14), y.told(14));
            if (k % 10 == 0) {
                check.due("digest() behind '" + text + "'", x.digest(), y.digest());
            }
        }
        check.end("TextTests");
    }

    private static String scatter(Random dice) {
        StringBuilder b = new StringBuilder();
        for (int k = dice.nextInt(8); k > 0; k--) {
            b.append("flbewtksxah; 012 ;".charAt(dice.nextInt(18)));
        }
        return b.toString();
    }
}
