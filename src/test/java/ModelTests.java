import java.util.Random;

/** Random runs of calls (from fixed seeds) on the class and on the slow model: every answer must be alike. */
public final class ModelTests {
    private static final int RUNS = 700;
    private static final Check CHECK = new Check();

    private final Random dice;
    private final SungLines x = new SungLines();
    private final Model y = new Model();
    private final int run;
    // what kind of run: how many kinds of letters, how long phrases and metres are, how often a call is wrong
    private final int kinds, longest, widest, wrongIn;
    private int calls;

    private ModelTests(int run) {
        this.run = run;
        dice = new Random(77_000 + run);
        kinds = new int[] {1, 2, 3, 8}[dice.nextInt(4)];
        longest = 1 + dice.nextInt(dice.nextBoolean() ? 2 : 6);
        widest = dice.nextInt(3) == 0 ? 40 : 3 + dice.nextInt(12);
        wrongIn = dice.nextBoolean() ? 10 : 60;
    }

    public static void main(String[] args) {
        for (int run = 0; run < RUNS && CHECK.clean(); run++) {
            new ModelTests(run).play();
        }
        CHECK.end("ModelTests");
    }

    private void play() {
        // the last step may take a whole text more, and no object is asked more than 512 times
        int most = 60 + dice.nextInt(280);
        while (calls < most && CHECK.clean()) {
            step();
            if (dice.nextInt(25) == 0) {
                due("digest()", x.digest(), y.digest());
            }
        }
    }

    private void due(String call, long got, long want) {
        calls++;
        CHECK.due("run " + run + ", call " + calls + ": " + call, got, want);
    }

    /** From least to most, or now and then just outside or far away. */
    private int about(int least, int most) {
        if (dice.nextInt(wrongIn) != 0) {
            return least + dice.nextInt(most - least + 1);
        }
        int[] odd = {least - 1, most + 1, least - 2, most + 2, Integer.MIN_VALUE, Integer.MAX_VALUE, -1, -10};
        return odd[dice.nextInt(odd.length)];
    }

    private int kind() {
        int[] letters = {1, 5, 2, 8, 3, 4, 6, 7};
        return letters[dice.nextInt(kinds)];
    }

    private int code() {
        if (dice.nextInt(wrongIn) == 0) {
            int[] odd = {0, 9, 10, 901, 190, -1, -12, 1111111, 1234567, 888888, Integer.MAX_VALUE, Integer.MIN_VALUE};
            return odd[dice.nextInt(odd.length)];
        }
        int code = 0;
        for (int k = 1 + dice.nextInt(longest); k > 0; k--) {
            code = code * 10 + kind();
        }
        return code;
    }

    private int set() {
        return dice.nextInt(6) == 0 ? about(0, 15) : 15 - (1 << dice.nextInt(4)) * (dice.nextInt(4) / 3);
    }

    private void step() {
        int phrases = x.told(5);
        y.told(5);
        calls++;
        switch (dice.nextInt(26)) {
            case 0: case 1: case 2: addPhrase(); break;
            case 3: if (phrases > 6 && dice.nextInt(2) == 0 || dice.nextInt(8) == 0) drop(phrases); break;
            case 4: { int v = set(); due("begins(" + v + ")", x.begins(v), y.begins(v)); break; }
            case 5: { int v = set(); due("ends(" + v + ")", x.ends(v), y.ends(v)); break; }
            case 6: { int s = about(0, 3), v = set(); due("follows(" + s + ", " + v + ")", x.follows(s, v), y.follows(s, v)); break; }
            case 7: { int i = about(0, Math.max(0, phrases - 1)), w = about(0, 6); due("of(" + i + ", " + w + ")", x.of(i, w), y.of(i, w)); break; }
            case 8: case 9: addLetters(phrases); break;
            case 10: if (dice.nextInt(3) == 0) { wipe(); addLetters(phrases); } break;
            case 11: { int m = about(0, 2); due("best(" + m + ", NONE)", x.best(m, -1), y.best(m, -1)); break; }
            case 12: due("cuts()", x.cuts(), y.cuts()); break;
            case 13: { int m = about(0, 2), i = about(-2, 12); due("best(" + m + ", " + i + ")", x.best(m, i), y.best(m, i)); break; }
            case 14: case 15: { int m = about(0, 2); due("sings(" + m + ")", x.sings(m), y.sings(m)); break; }
            case 16: { int m = about(0, 2), s = about(0, 3); due("fixes(" + m + ", " + s + ")", x.fixes(m, s), y.fixes(m, s)); break; }
            case 17: { int n = about(1, widest); due("metre(" + n + ")", x.metre(n), y.metre(n)); break; }
            case 18: { int p = dice.nextBoolean() ? about(1, widest) : about(1, 39), v = about(0, 2); due("marks(" + p + ", " + v + ")", x.marks(p, v), y.marks(p, v)); break; }
            case 19: due("made()", x.made(), y.made()); break;
            case 20: askRow(); break;
            case 21: { int m = about(0, 2), i = about(-1, Math.max(0, phrases - 1)); due("weight(" + m + ", " + i + ")", x.weight(m, i), y.weight(m, i)); break; }
            case 22: { int m = about(0, 2), s = about(0, 999999), i = about(-1, 10); due("picks(" + m + ", " + s + ", " + i + ")", x.picks(m, s, i), y.picks(m, s, i)); break; }
            case 23: if (dice.nextInt(3) == 0) readText(); break;
            case 24: if (dice.nextInt(2) == 0) due("back()", x.back(), y.back()); break;
            default: { int w = about(0, 14); due("told(" + w + ")", x.told(w), y.told(w)); break; }
        }
    }

    private void addPhrase() {
        int s = about(0, 3), c = code();
        due("phrase(" + s + ", " + c + ")", x.phrase(s, c), y.phrase(s, c));
    }

    private void drop(int phrases) {
        int i = about(0, Math.max(0, phrases - 1));
        due("drops(" + i + ")", x.drops(i), y.drops(i));
    }

    /** Most often a whole phrase's letters, so that there are lines that can be cut. */
    private void addLetters(int phrases) {
        if (phrases == 0 || dice.nextInt(wrongIn) == 0) {
            addLetter(dice.nextBoolean() ? about(1, 8) : kind());
            return;
        }
        calls++;
        if (x.told(6) > 30 && dice.nextInt(3) == 0) {
            wipe();
        }
        for (int k = 1 + dice.nextInt(3); k > 0; k--) {
            int code = x.of(dice.nextInt(phrases), 3);
            calls++;
            for (char c : Integer.toString(code).toCharArray()) {
                addLetter(c - '0');
            }
        }
    }

    private void addLetter(int c) {
        due("letter(" + c + ")", x.letter(c), y.letter(c));
    }

    private void wipe() {
        due("wipes()", x.wipes(), y.wipes());
    }

    private void askRow() {
        long all = x.made();
        y.made();
        calls++;
        long n = all > 0 && dice.nextInt(5) != 0 ? Math.floorMod(dice.nextLong(), all) : all + dice.nextInt(3) - 1;
        int i = about(-1, 10);
        due("row(" + n + ", " + i + ")", x.row(n, i), y.row(n, i));
    }

    private void readText() {
        if (dice.nextInt(3) != 0) {
            due("clear()", x.clear(), y.clear());
        }
        String text = TextMaker.make(dice, kinds);
        for (int k = 0; k < text.length() && calls < 500; k++) {
            int c = text.charAt(k);
            due("type(" + c + ")", x.type(c), y.type(c));
        }
        if (dice.nextInt(20) == 0) {
            int c = about(0, 127);
            due("type(" + c + ")", x.type(c), y.type(c));
        }
        due("reads()", x.reads(), y.reads());
        due("digest()", x.digest(), y.digest());
    }
}
