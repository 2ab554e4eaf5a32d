import java.util.Random;

/** Calls with any arguments in any state, far beyond the 512th: none may throw or fail to end. */
public final class NeverThrowsTests {
    private static final int[] ODD = {Integer.MIN_VALUE, Integer.MIN_VALUE + 1, -1000000, -11, -10, -5, -4, -3, -2, -1, 0, 1, 2, 3, 4,
        5, 7, 8, 9, 11, 12, 13, 15, 16, 39, 40, 41, 59, 97, 115, 127, 128, 888888, 999999, 1000000, Integer.MAX_VALUE - 1, Integer.MAX_VALUE};

    public static void main(String[] args) {
        Check check = new Check();
        Random dice = new Random(99);
        for (int run = 0; run < 40; run++) {
            SungLines x = new SungLines();
            long sum = 0;
            for (int k = 0; k < 5000; k++) {
                sum += call(x, dice);
            }
            int states = x.told(14);
            check.that("states of run " + run + " (" + sum + ")", states >= 0 && states <= 5);
        }
        check.end("NeverThrowsTests");
    }

    private static int any(Random dice) {
        return dice.nextInt(8) == 0 ? dice.nextInt() : ODD[dice.nextInt(ODD.length)];
    }

    private static int near(Random dice, int most) {
        return dice.nextInt(6) == 0 ? any(dice) : dice.nextInt(most + 1);
    }

    private static long call(SungLines x, Random dice) {
        switch (dice.nextInt(26)) {
            case 0: case 1: return x.phrase(near(dice, 3), near(dice, 88));
            case 2: return x.drops(near(dice, 40));
            case 3: return x.begins(dice.nextInt(3) == 0 ? near(dice, 15) : 15);
            case 4: return x.ends(dice.nextInt(3) == 0 ? near(dice, 15) : 15);
            case 5: return x.follows(near(dice, 3), dice.nextInt(3) == 0 ? near(dice, 15) : 15);
            case 6: return x.of(near(dice, 11), near(dice, 6));
            case 7: case 8: return x.letter(near(dice, 8));
            case 9: return dice.nextInt(30) == 0 ? x.wipes() : 0;
            case 10: return x.cuts();
            case 11: return x.best(near(dice, 2), near(dice, 20));
            case 12: return x.sings(near(dice, 2));
            case 13: return x.fixes(near(dice, 2), near(dice, 3));
            case 14: return x.metre(near(dice, 40));
            case 15: return x.marks(near(dice, 39), dice.nextInt(3) == 0 ? near(dice, 2) : 0);
            case 16: return x.made();
            case 17: return x.row(dice.nextInt(3) == 0 ? dice.nextLong() : any(dice), near(dice, 20));
            case 18: return x.weight(near(dice, 2), near(dice, 11));
            case 19: return x.picks(near(dice, 2), near(dice, 999999), near(dice, 20));
            case 20: return x.type(near(dice, 127));
            case 21: return readSome(x, dice);
            case 22: return x.reads();
            case 23: return dice.nextInt(3) == 0 ? x.back() : 0;
            case 24: return x.told(near(dice, 14));
            default: return x.digest();
        }
    }

    private static long readSome(SungLines x, Random dice) {
        x.clear();
        for (char c : TextMaker.make(dice, 2).toCharArray()) {
            x.type(c);
        }
        return x.reads();
    }
}
