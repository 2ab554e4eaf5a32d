/** Promise by promise: ordinary inputs, the edges that the document names, and wrong inputs. */
public final class PromiseTests {
    private static final int NONE = -1, BAD = -2, NO = -3, FULL = -4, MUCH = -5, NOT_SO_MANY = -10;
    private static final int LOW = Integer.MIN_VALUE, HIGH = Integer.MAX_VALUE;
    private static final Check C = new Check();

    public static void main(String[] args) {
        newObject();
        phrase();
        drops();
        rules();
        of();
        lineAndWipes();
        cuts();
        best();
        sings();
        fixes();
        metreAndMarks();
        made();
        tooMuch();
        row();
        weight();
        picks();
        typeAndClear();
        readsSound();
        readsFaults();
        readsStops();
        back();
        backOverEach();
        told();
        digest();
        fullHouse();
        refusalsChangeNothing();
        orderOfRefusals();
        C.end("PromiseTests");
    }

    // ---- helpers

    private static int read(SungLines x, String text) {
        x.clear();
        for (char c : text.toCharArray()) {
            x.type(c);
        }
        return x.reads();
    }

    private static SungLines with(String text) {
        SungLines x = new SungLines();
        C.that("the text '" + text + "' is read", read(x, text) > 0);
        return x;
    }

    private static void row(SungLines x, long n, int... phrases) {
        C.due("row " + n + ": how many", x.row(n, NONE), phrases.length);
        for (int i = 0; i < phrases.length; i++) {
            C.due("row " + n + ": " + i, x.row(n, i), phrases[i]);
        }
        C.due("row " + n + ": behind the last", x.row(n, phrases.length), NOT_SO_MANY);
    }

    private static void best(SungLines x, int m, int sum, int... phrases) {
        C.due("best of " + m + ": sum", x.best(m, -2), sum);
        C.due("best of " + m + ": how many", x.best(m, NONE), phrases.length);
        for (int i = 0; i < phrases.length; i++) {
            C.due("best of " + m + ": " + i, x.best(m, i), phrases[i]);
        }
        C.due("best of " + m + ": behind the last", x.best(m, phrases.length), NOT_SO_MANY);
        C.due("best of " + m + ": far behind", x.best(m, HIGH), NOT_SO_MANY);
    }

    private static void habits(SungLines x, int m, int... due) {
        for (int i = 0; i < due.length; i++) {
            C.due("habit of " + m + " of phrase " + i, x.of(i, 4 + m), due[i]);
        }
    }

    // ---- 1

    private static void newObject() {
        SungLines x = new SungLines();
        int[] facts = {0, 0, 0, 0, 0, 0, 0, 12, 15, 15, 15, 15, 15, 15, 0};
        for (int what = 0; what < facts.length; what++) {
            C.due("1: told(" + what + ")", x.told(what), facts[what]);
        }
        C.due("1: cuts", x.cuts(), 0);
        C.due("1: made", x.made(), 0);
        for (int place = 1; place <= 39; place++) {
            C.due("1: mark", x.marks(place, 0), 0);
        }
        C.due("1: no phrase", x.of(0, 0), BAD);
    }

    // ---- 2, 3

    private static void phrase() {
        SungLines x = new SungLines();
        C.due("2: first", x.phrase(0, 1), 0);
        C.due("2: the same letters in another slot", x.phrase(3, 1), 1);
        C.due("2: six letters", x.phrase(3, 876543), 2);
        C.due("2: the first letter is the highest figure", x.of(2, 3), 876543);
        int[] bad = {0, 9, 10, 19, 91, 109, 1111111, 123456789, -1, -15, LOW, HIGH};
        for (int code : bad) {
            C.due("2: code " + code, x.phrase(1, code), BAD);
        }
        int[] badSlots = {-1, 4, LOW, HIGH};
        for (int slot : badSlots) {
            C.due("2: slot " + slot, x.phrase(slot, 1), BAD);
        }
        C.due("2: it is there", x.phrase(0, 1), NO);
        for (int n = 3; n < 12; n++) {
            C.due("2: number " + n, x.phrase(2, 11 + n % 8 + 10 * (n / 8)), n);
        }
        C.due("2: 12 are full", x.phrase(1, 1), FULL);
        C.due("2: NO ahead of FULL", x.phrase(0, 1), NO);
        C.due("2: BAD ahead of all", x.phrase(0, 0), BAD);
        C.due("2: how many", x.told(5), 12);
        C.due("2: BAD counted", x.told(0), bad.length + badSlots.length + 1);
        C.due("2: NO counted", x.told(1), 2);
        C.due("2: FULL counted", x.told(2), 1);
    }

    private static void drops() {
        SungLines x = with("f0a;f1b;f2ce;f3d;la;s0;lb;s1;s1;lce;s2;s2;s2;");
        C.due("3: none below", x.drops(-1), BAD);
        C.due("3: none above", x.drops(4), BAD);
        C.due("3: far", x.drops(LOW), BAD);
        C.due("3: far", x.drops(HIGH), BAD);
        C.due("3: left", x.drops(1), 3);
        C.due("3: the next is nearer", x.of(1, 3), 35);
        C.due("3: its slot", x.of(1, 0), 2);
        C.due("3: its letters", x.of(1, 1), 2);
        C.due("3: its morae", x.of(1, 2), 3);
        habits(x, 0, 1, 0, 0);
        habits(x, 1, 0, 0, 0);
        habits(x, 2, 0, 3, 0);
        C.due("3: no fourth", x.of(3, 0), BAD);
        C.due("3: a new one has no habits", x.phrase(1, 2), 3);
        habits(x, 1, 0, 0, 0, 0);
        C.due("3: the last", x.drops(3), 3);
        read(x, "f0b;lb;s0;s1;s2;x3;f0b;");
        for (int m = 0; m < 3; m++) {
            habits(x, m, m == 0 ? 1 : 0, m == 2 ? 3 : 0, 0, 0);
        }
        x.drops(3);
        C.due("3: the first", x.drops(0), 2);
        C.due("3: of them", x.of(0, 3), 35);
        C.due("3: again", x.drops(0), 1);
        C.due("3: the only one", x.drops(0), 0);
        C.due("3: of none", x.drops(0), BAD);
    }

    // ---- 4, 5, 6

    private static void rules() {
        SungLines x = new SungLines();
        int[] bad = {-1, 16, LOW, HIGH};
        for (int v : bad) {
            C.due("4: begins " + v, x.begins(v), BAD);
            C.due("5: ends " + v, x.ends(v), BAD);
            C.due("6: follows " + v, x.follows(0, v), BAD);
        }
        C.due("4: was", x.begins(0), 15);
        C.due("4: was", x.begins(9), 0);
        C.due("4: is", x.told(8), 9);
        C.due("5: was", x.ends(0), 15);
        C.due("5: was", x.ends(6), 0);
        C.due("5: is", x.told(9), 6);
        for (int s = 0; s < 4; s++) {
            C.due("6: was", x.follows(s, s + 3), 15);
            C.due("6: was", x.follows(s, s + 5), s + 3);
        }
        for (int s = 0; s < 4; s++) {
            C.due("6: is", x.told(10 + s), s + 5);
        }
        C.due("6: slot", x.follows(-1, 0), BAD);
        C.due("6: slot", x.follows(4, 0), BAD);
        C.due("6: slot", x.follows(HIGH, 0), BAD);
        C.due("4 to 6: states", x.told(14), 5);
    }

    // ---- 7

    private static void of() {
        SungLines x = with("f2adeh;f0a;ladeh;s1;s1;s2;");
        int[] facts = {2, 4, 6, 1458, 0, 2, 1};
        for (int what = 0; what < facts.length; what++) {
            C.due("7: of(0, " + what + ")", x.of(0, what), facts[what]);
        }
        C.due("7: short letters", x.of(1, 2), 1);
        C.due("7: what", x.of(0, -1), BAD);
        C.due("7: what", x.of(0, 7), BAD);
        C.due("7: what", x.of(0, HIGH), BAD);
        C.due("7: phrase", x.of(-1, 0), BAD);
        C.due("7: phrase", x.of(2, 0), BAD);
        C.due("7: phrase", x.of(LOW, LOW), BAD);
        C.due("7: counted", x.told(0), 6);
        SungLines y = with("f0abcd;f1efgh;");
        C.due("7: a to d", y.of(0, 2), 4);
        C.due("7: e to h", y.of(1, 2), 8);
    }

    // ---- 8, 9

    private static void lineAndWipes() {
        SungLines x = new SungLines();
        int[] bad = {0, 9, -1, LOW, HIGH};
        for (int c : bad) {
            C.due("8: letter " + c, x.letter(c), BAD);
        }
        for (int n = 1; n <= 40; n++) {
            C.due("8: how many", x.letter(1 + n % 8), n);
        }
        C.due("8: full", x.letter(1), FULL);
        C.due("8: BAD ahead of FULL", x.letter(9), BAD);
        C.due("8: of the line", x.told(6), 40);
        C.due("9: had", x.wipes(), 40);
        C.due("9: had none", x.wipes(), 0);
        C.due("9: none", x.told(6), 0);
        C.due("9: states", x.told(14), 5);
        C.due("9: back", x.back(), 4);
        C.due("9: back", x.back(), 3);
        C.due("9: the line is back", x.told(6), 40);
    }

    // ---- 10 to 13

    private static void cuts() {
        SungLines x = with("f0a;f1a;f2aa;laaa;");
        // 8 of single ones, and aa with one a ahead or behind: 2 + 2
        C.due("10: all", x.cuts(), 12);
        x.follows(2, 0);
        C.due("10: nothing behind slot 2", x.cuts(), 10);
        x.begins(2);
        C.due("10: slot 1 first", x.cuts(), 5);
        x.ends(4);
        C.due("10: slot 2 last", x.cuts(), 1);
        x.ends(0);
        C.due("10: none may end", x.cuts(), 0);
        SungLines y = with("f0ab;f0abab;lababa;");
        C.due("10: a letter is left over", y.cuts(), 0);
        y.letter(2);
        C.due("10: ab ab ab, ab abab, abab ab", y.cuts(), 3);
        y.marks(2, 2);
        y.marks(3, 1);
        C.due("10: marks are none of the line's", y.cuts(), 3);
        y.wipes();
        C.due("10: an empty line", y.cuts(), 0);
        C.due("10: one letter", with("f0h;f1h;f2g;lh;").cuts(), 2);
        C.due("10: six letters", with("f0abcdef;f1abcde;f2f;f3abcdeh;labcdef;").cuts(), 2);
        SungLines z = with("f0abcdef;f1bcdefg;labcdefabcdefabcdefabcdefabcdefabcdefabcd;");
        C.due("10: 40 letters", z.cuts(), 0);
        z.phrase(2, 1234);
        C.due("10: 40 letters", z.cuts(), 1);
        C.due("11: of 40 letters", z.best(0, NONE), 7);
    }

    private static void best() {
        SungLines x = with("f0a;f1a;f2aa;f3aaa;laaa;");
        best(x, 0, 0, 3);
        x.drops(3);
        best(x, 0, 0, 0, 2);
        read(x, "la;b2;s1;b15;laaa;");
        habits(x, 1, 0, 1, 0);
        best(x, 1, 3, 1, 1, 1);
        best(x, 0, 0, 0, 2);
        x.begins(1);
        best(x, 1, 2, 0, 1, 1);
        x.begins(4);
        best(x, 1, 1, 2, 1);
        C.due("11: maker", x.best(-1, 0), BAD);
        C.due("11: maker", x.best(3, 0), BAD);
        C.due("11: i", x.best(0, -3), BAD);
        C.due("11: i", x.best(0, LOW), BAD);
        x.ends(0);
        C.due("11: no cut", x.best(0, 0), NO);
        C.due("11: no cut", x.best(0, -2), NO);
        C.due("11: no cut, no such part", x.best(0, 99), NO);
        C.due("11: BAD ahead of NO", x.best(3, 0), BAD);
        x.ends(15);
        x.wipes();
        C.due("11: an empty line", x.best(0, NONE), NO);
        // a lesser number later on does not outweigh a lesser one where they first differ
        best(with("f0ab;f0a;f0bc;f0c;labc;"), 0, 0, 0, 3);
        // habits go ahead of the fewest
        best(with("f0aa;f0a;la;s0;laa;"), 0, 2, 1, 1);
        // like sums: the fewest, even if an earlier number begins the longer one
        best(with("f0a;f0aa;laa;"), 2, 0, 1);
    }

    private static void sings() {
        SungLines x = with("f0a;f1b;laba;");
        C.due("12: how many", x.sings(2), 3);
        habits(x, 2, 2, 1);
        habits(x, 0, 0, 0);
        habits(x, 1, 0, 0);
        C.due("12: maker", x.sings(3), BAD);
        C.due("12: maker", x.sings(-1), BAD);
        C.due("12: again", x.sings(2), 3);
        habits(x, 2, 4, 2);
        C.due("12: two states more", x.told(14), 3);
        x.back();
        habits(x, 2, 2, 1);
        x.letter(3);
        C.due("12: no cut", x.sings(2), NO);
        habits(x, 2, 2, 1);
        C.due("12: counted", x.told(1), 1);
        C.due("12: counted", x.told(0), 2);
    }

    private static void fixes() {
        SungLines x = with("f0a;f0b;f1c;");
        C.due("13: none", x.fixes(0, 0), NONE);
        read(x, "lb;s0;s0;");
        C.due("13: one alone", x.fixes(0, 0), 1);
        C.due("13: another maker", x.fixes(1, 0), NONE);
        C.due("13: another slot", x.fixes(0, 1), NONE);
        read(x, "lac;s0;");
        C.due("13: two of them", x.fixes(0, 0), NONE);
        C.due("13: the other slot now", x.fixes(0, 1), 2);
        C.due("13: a slot without phrases", x.fixes(0, 3), NONE);
        x.drops(0);
        C.due("13: alone once more", x.fixes(0, 0), 0);
        int[] bad = {-1, LOW, HIGH};
        for (int v : bad) {
            C.due("13: maker " + v, x.fixes(v, 0), BAD);
            C.due("13: slot " + v, x.fixes(0, v), BAD);
        }
        C.due("13: maker", x.fixes(3, 0), BAD);
        C.due("13: slot", x.fixes(0, 4), BAD);
    }

    // ---- 14, 15, 16

    private static void metreAndMarks() {
        SungLines x = new SungLines();
        C.due("14: was", x.metre(1), 12);
        C.due("14: was", x.metre(40), 1);
        int[] bad = {0, 41, -1, LOW, HIGH};
        for (int n : bad) {
            C.due("14: " + n, x.metre(n), BAD);
        }
        C.due("14: is", x.told(7), 40);
        C.due("15: was", x.marks(1, 2), 0);
        C.due("15: was", x.marks(1, 1), 2);
        C.due("15: was", x.marks(39, 1), 0);
        C.due("15: was", x.marks(39, 0), 1);
        int[] badPlaces = {0, 40, -1, LOW, HIGH};
        for (int place : badPlaces) {
            C.due("15: place " + place, x.marks(place, 0), BAD);
        }
        int[] badMarks = {-1, 3, LOW, HIGH};
        for (int v : badMarks) {
            C.due("15: mark " + v, x.marks(1, v), BAD);
        }
        C.due("15: still", x.marks(1, 0), 1);
    }

    private static void made() {
        SungLines x = with("f0a;f1e;t4;");
        // a: 1 mora, e: 2: rows of 1 and 2 that make 4
        C.due("16: all", x.made(), 5);
        x.marks(2, 1);
        C.due("16: a break at 2", x.made(), 4);
        x.marks(2, 2);
        C.due("16: a bridge at 2", x.made(), 1);
        x.marks(1, 1);
        x.marks(3, 1);
        C.due("16: breaks about the bridge", x.made(), 1);
        x.marks(3, 2);
        C.due("16: no way over two bridges", x.made(), 0);
        x.marks(1, 0);
        x.marks(2, 0);
        x.marks(3, 0);
        x.marks(4, 2);
        x.marks(5, 1);
        C.due("16: marks from T on are nothing", x.made(), 5);
        x.metre(5);
        C.due("16: a bridge at 4 below T", x.made(), 3);
        x.metre(4);
        x.begins(2);
        C.due("16: slot 1 first", x.made(), 2);
        x.ends(1);
        C.due("16: slot 0 last", x.made(), 1);
        x.follows(1, 2);
        C.due("16: slot 1 behind slot 1 alone", x.made(), 0);
        x.ends(2);
        C.due("16: e e", x.made(), 1);
        x.follows(1, 15);
        x.ends(15);
        x.begins(15);
        x.marks(3, 1);
        C.due("16: a break at the last place below T", x.made(), 3);
        x.marks(3, 2);
        C.due("16: a bridge at the last place below T", x.made(), 2);
        x.metre(1);
        C.due("16: T is 1", x.made(), 1);
        SungLines y = with("f0efgh;t7;");
        C.due("16: a phrase too long", y.made(), 0);
        y.metre(8);
        C.due("16: just so long", y.made(), 1);
        y.marks(5, 1);
        C.due("16: a break within it", y.made(), 0);
        y.marks(5, 2);
        C.due("16: a bridge within it", y.made(), 1);
    }

    private static void tooMuch() {
        SungLines x = with("f0a;f1a;f2a;f3a;t31;");
        C.due("ON: 4 to the 31st", x.made(), 4611686018427387904L);
        x.metre(32);
        C.due("ON: all from the beginning", x.made(), MUCH);
        C.due("ON: counted", x.told(3), 1);
        x.begins(1);
        C.due("ON: a part of them begins", x.made(), 4611686018427387904L);
        x.begins(3);
        C.due("ON: half of them is one above the most", x.made(), MUCH);
        x.begins(0);
        C.due("ON: none begins", x.made(), 0);
        x.metre(33);
        C.due("ON: of place 1, though none begins", x.made(), MUCH);
        x.marks(1, 2);
        C.due("ON: place 1 is a bridge", x.made(), 0);
        x.marks(1, 1);
        C.due("ON: place 1 is a break", x.made(), MUCH);
        C.due("ON: row", x.row(0, NONE), MUCH);
        C.due("ON: weight", x.weight(0, NONE), MUCH);
        C.due("ON: weight of one", x.weight(0, 0), MUCH);
        C.due("ON: picks", x.picks(0, 0, 0), MUCH);
        C.due("ON: counted", x.told(3), 8);
        // slot 1 has no phrase, but its ON alone is above the most
        SungLines y = with("f0a;f0b;f0c;f0d;f2a;f2b;f2c;f2d;w0 1;w2 1;w1 1;w3 0;b0;t32;");
        C.due("ON: of any slot", y.made(), 0);
        y.follows(1, 5);
        C.due("ON: of a slot without phrases", y.made(), MUCH);
        y.follows(1, 4);
        C.due("ON: of a slot without phrases", y.made(), 0);
        // CUTS likewise
        SungLines v = with("f0a;f1a;f2a;f3a;laaaaaaaaaaaaaaaaaaaaaaaaaaaaaaa;");
        C.due("ON: cuts", v.cuts(), 4611686018427387904L);
        v.letter(1);
        C.due("ON: cuts", v.cuts(), MUCH);
        v.begins(0);
        C.due("ON: cuts", v.cuts(), 0);
        v.letter(1);
        C.due("ON: cuts", v.cuts(), MUCH);
        v.begins(15);
        C.due("ON: best is not too much", v.best(0, NONE), 33);
        C.due("ON: sings is not too much", v.sings(0), 33);
        // weights may be too much where rows are not
        SungLines w = with("f0a;laaaaaaaaaaaaaaaaaaaaaaaaaaaaaaaaaaaaaaaa;s1;t12;");
        C.due("ON: 41 to the 12th is too much", w.weight(1, NONE), MUCH);
        C.due("ON: picks of weights", w.picks(1, 0, NONE), MUCH);
        C.due("ON: rows are not", w.made(), 1);
        C.due("ON: picks of another maker", w.picks(0, 0, NONE), 12);
        mostOfAll();
        w.metre(11);
        C.due("ON: 41 to the 11th is not", w.weight(1, NONE), 550329031716248441L);
    }

    /** a weighs 8, b 7, c and d 1: with a a .. b c c .. in 21 morae it is 8 to the 21st, less 1: just not above. */
    private static void mostOfAll() {
        SungLines x = with("f0a;f1b;f2c;laaaaaaa;s0;lbbbbbb;s0;b3;e6;w0 3;w1 4;w2 4;w3 0;t21;");
        C.due("ON: the most", x.weight(0, NONE), Long.MAX_VALUE);
        C.due("ON: of them", x.weight(0, 0), Long.MAX_VALUE - 7);
        C.due("ON: of them", x.weight(0, 1), 7);
        C.due("ON: picks", x.picks(0, 0, NONE), 21);
        x.metre(22);
        C.due("ON: above the most", x.weight(0, NONE), MUCH);
        read(x, "f3d;b8;w3 3;");
        C.due("ON: the most, behind one that weighs 1", x.weight(0, NONE), Long.MAX_VALUE);
        C.due("ON: it begins with that", x.weight(0, 3), Long.MAX_VALUE);
        x.begins(9);
        C.due("ON: above the most", x.weight(0, NONE), MUCH);
    }

    // ---- 17, 18, 19

    private static void row() {
        SungLines x = with("f0a;f1e;t4;");
        row(x, 0, 0, 0, 0, 0);
        row(x, 1, 0, 0, 1);
        row(x, 2, 0, 1, 0);
        row(x, 3, 1, 0, 0);
        row(x, 4, 1, 1);
        C.due("17: not so many", x.row(5, 0), NO);
        C.due("17: not so many", x.row(Long.MAX_VALUE, NONE), NO);
        C.due("17: n", x.row(-1, 0), BAD);
        C.due("17: n", x.row(Long.MIN_VALUE, 0), BAD);
        C.due("17: i", x.row(0, -2), BAD);
        C.due("17: i", x.row(0, LOW), BAD);
        C.due("17: i far", x.row(0, HIGH), NOT_SO_MANY);
        x.marks(2, 2);
        row(x, 0, 0, 1, 0);
        x.marks(2, 1);
        row(x, 2, 1, 0, 0);
        x.follows(1, 2);
        row(x, 1, 0, 0, 1);
        row(x, 2, 1, 1);
        C.due("17: counted", x.told(0), 4);
        C.due("17: counted", x.told(1), 2);
    }

    private static void weight() {
        SungLines x = with("f0a;f1e;la;s0;t3;le;s1;s1;b15;");
        // a a a, a e, e a: maker 0 has a twice as dear, maker 1 e three times
        C.due("18: all by 0", x.weight(0, NONE), 8 + 2 + 2);
        C.due("18: a by 0", x.weight(0, 0), 10);
        C.due("18: e by 0", x.weight(0, 1), 2);
        C.due("18: all by 1", x.weight(1, NONE), 1 + 3 + 3);
        C.due("18: a by 1", x.weight(1, 0), 4);
        C.due("18: e by 1", x.weight(1, 1), 3);
        C.due("18: all by 2", x.weight(2, NONE), 3);
        x.begins(2);
        C.due("18: a can not begin", x.weight(0, 0), 0);
        C.due("18: e alone", x.weight(0, NONE), 2);
        C.due("18: maker", x.weight(-1, 0), BAD);
        C.due("18: maker", x.weight(3, NONE), BAD);
        C.due("18: phrase", x.weight(0, 2), BAD);
        C.due("18: phrase", x.weight(0, -2), BAD);
        C.due("18: phrase", x.weight(0, HIGH), BAD);
        x.metre(1);
        C.due("18: no made row", x.weight(0, NONE), 0);
        C.due("18: no made row", x.weight(0, 1), 0);
    }

    private static void picks() {
        SungLines x = with("f0a;f1e;la;s0;t3;le;s1;s1;b15;");
        int[][] rows = {{0, 0, 0}, {0, 1}, {1, 0}};
        long[][] weights = {{8, 2, 2}, {1, 3, 3}, {1, 1, 1}};
        int[] seeds = {0, 1, 2, 3, 4, 5, 6, 7, 8, 9, 10, 11, 77, 4321, 500000, 999998, 999999};
        for (int m = 0; m < 3; m++) {
            for (int seed : seeds) {
                long all = weights[m][0] + weights[m][1] + weights[m][2];
                long v = (seed * 1103515245L + 12345) % 2147483648L % all;
                int due = v < weights[m][0] ? 0 : v < weights[m][0] + weights[m][1] ? 1 : 2;
                String call = "19: picks(" + m + ", " + seed + ")";
                C.due(call + " how many", x.picks(m, seed, NONE), rows[due].length);
                for (int i = 0; i < rows[due].length; i++) {
                    C.due(call + " " + i, x.picks(m, seed, i), rows[due][i]);
                }
                C.due(call + " behind", x.picks(m, seed, rows[due].length), NOT_SO_MANY);
            }
        }
        C.due("19: maker", x.picks(3, 0, 0), BAD);
        C.due("19: maker", x.picks(-1, 0, 0), BAD);
        C.due("19: seed", x.picks(0, -1, 0), BAD);
        C.due("19: seed", x.picks(0, 1000000, 0), BAD);
        C.due("19: i", x.picks(0, 0, -2), BAD);
        x.ends(0);
        C.due("19: no made row", x.picks(0, 0, 0), NO);
        C.due("19: no made row, no such part", x.picks(0, 0, HIGH), NO);
        C.due("19: BAD ahead of NO", x.picks(0, 0, LOW), BAD);
    }

    // ---- 20, 21, 22

    private static void typeAndClear() {
        SungLines x = new SungLines();
        int[] bad = {-1, 128, 255, LOW, HIGH};
        for (int c : bad) {
            C.due("20: byte " + c, x.type(c), BAD);
        }
        for (int n = 1; n <= 150; n++) {
            C.due("20: how many", x.type(n % 128), n);
        }
        C.due("20: full", x.type(0), FULL);
        C.due("20: BAD ahead of FULL", x.type(128), BAD);
        C.due("20: bytes", x.told(4), 150);
        C.due("21: had", x.clear(), 150);
        C.due("21: had none", x.clear(), 0);
        C.due("21: bytes", x.told(4), 0);
        C.due("20, 21: no states", x.told(14), 0);
    }

    private static void readsSound() {
        SungLines x = new SungLines();
        C.due("22: all kinds", read(x, " f 1 abch ; f02h;l a ; b01 ;e 3;w0 15;w3   7;t40;k39 2;k 1 01;b15;e15;f0a;s2;x0; "), 15);
        C.due("22: one state for all", x.told(14), 1);
        int[] facts = {0, 0, 0, 0, 84, 2, 1, 40, 15, 15, 15, 15, 15, 7, 1};
        for (int what = 0; what < facts.length; what++) {
            if (what != 4) {
                C.due("22: told(" + what + ")", x.told(what), facts[what]);
            }
        }
        C.due("22: what is left", x.of(0, 3), 8);
        C.due("22: its slot", x.of(0, 0), 2);
        C.due("22: sung", x.of(1, 6), 1);
        C.due("22: a mark", x.marks(39, 0), 2);
        C.due("22: a mark", x.marks(1, 0), 1);
        C.due("22: the text stays", x.reads(), -1001);
        C.due("22: an empty line", read(x, "l;"), 1);
        C.due("22: none", x.told(6), 0);
        C.due("22: an empty line", read(x, "l  ;"), 1);
        C.due("22: 40 letters", read(x, "labcdefghabcdefghabcdefghabcdefghabcdefgh;"), 1);
        C.due("22: 40", x.told(6), 40);
        C.due("22: the line is these, not these too", read(x, "la;lbc;"), 2);
        C.due("22: 2", x.told(6), 2);
        C.due("22: orders are done one behind the other", read(x, "f3bc;lbc;s0;s0;x0;"), 5);
        C.due("22: habits go with them", x.of(1, 4), 2);
        x.back();
        C.due("22: all at once back", x.told(5), 2);
        StringBuilder many = new StringBuilder();
        for (int k = 0; k < 75; k++) {
            many.append("l;");
        }
        C.due("22: 75 orders", read(x, many.toString()), 75);
    }

    private static void fault(String text, int place) {
        SungLines x = new SungLines();
        C.due("22: '" + text + "'", read(x, text), -10 - place);
        C.due("22: no state by '" + text + "'", x.told(14), 0);
        C.due("22: no phrase by '" + text + "'", x.told(5), 0);
        for (int what = 0; what < 4; what++) {
            C.due("22: nothing counts by '" + text + "'", x.told(what), 0);
        }
    }

    private static void readsFaults() {
        fault("", 0);
        fault("   ", 3);
        fault(";", 0);
        fault("b", 1);
        fault("b1", 2);
        fault("b1 ", 3);
        fault("b;", 1);
        fault("ba;", 1);
        fault("b100;", 3);
        fault("b001;", 3);
        fault("b1 0;", 3);
        fault("b1;;", 3);
        fault("b1; z", 4);
        fault("B1;", 0);
        fault("a;", 0);
        fault("b\t1;", 1);
        fault("b-1;", 1);
        fault("w12;", 3);
        fault("w123;", 3);
        fault("w1 234;", 5);
        fault("w1 2 3;", 5);
        fault("w1;", 2);
        fault("k1 ;", 3);
        fault("k111 1;", 3);
        fault("w 1", 3);
        fault("s1a;", 2);
        fault("f0;", 2);
        fault("f0 ;", 3);
        fault("fa;", 1);
        fault("f0i;", 2);
        fault("f0a b;", 4);
        fault("f0a1;", 3);
        fault("f000a;", 3);
        fault("f0abcdefg;", 8);
        fault("f0abcdef", 8);
        fault("lab c;", 4);
        fault("l1;", 1);
        fault("li;", 1);
        fault("l", 1);
        fault("labcdefghabcdefghabcdefghabcdefghabcdefgha;", 41);
        fault("f0a;b16;x9;q", 11);
        fault("f0a;l;\u0000", 6);
    }

    private static void stop(String text, int order) {
        SungLines x = with("f0a;f1b;lab;");
        long facts = x.digest();
        int bytes = x.told(4);
        C.due("22: '" + text + "'", read(x, text), -1000 - order);
        read(x, "");
        while (x.told(4) < bytes) {
            x.type(' ');
        }
        C.due("22: nothing is done by '" + text + "'", x.digest(), facts);
    }

    private static void readsStops() {
        stop("b16;", 0);
        stop("b0;b1;e99;", 2);
        stop("w4 0;", 0);
        stop("w0 16;", 0);
        stop("t0;", 0);
        stop("t41;", 0);
        stop("k0 0;", 0);
        stop("k40 0;", 0);
        stop("k1 3;", 0);
        stop("f4a;", 0);
        stop("f0a;", 0);
        stop("f2a;f2a;", 1);
        stop("s3;", 0);
        stop("l;s0;", 1);
        stop("s0;lc;s0;", 2);
        stop("x2;", 0);
        stop("x0;x0;x0;", 2);
        stop("f2a;f2b;f2c;f2d;f2e;f2f;f2g;f2h;f3a;f3b;f3c;", 10);
        stop("k1 1;k2 2;t7;lh;b3;e4;w0 1;s9;", 7);
    }

    // ---- 23

    private static void back() {
        SungLines x = new SungLines();
        C.due("23: none", x.back(), NO);
        C.due("23: counted", x.told(1), 1);
        x.phrase(0, 1);
        x.letter(1);
        x.metre(7);
        x.marks(3, 2);
        x.begins(1);
        x.ends(2);
        C.due("23: 5 at most", x.told(14), 5);
        x.follows(2, 4);
        x.begins(1);
        C.due("23: also if nothing changes", x.told(14), 5);
        C.due("23: back", x.back(), 4);
        C.due("23: nothing had changed", x.told(8), 1);
        C.due("23: back", x.back(), 3);
        C.due("23: follows", x.told(12), 15);
        C.due("23: back", x.back(), 2);
        C.due("23: ends", x.told(9), 15);
        C.due("23: back", x.back(), 1);
        C.due("23: begins", x.told(8), 15);
        C.due("23: a change in between", x.drops(0), 0);
        C.due("23: states", x.told(14), 2);
        C.due("23: back", x.back(), 1);
        C.due("23: a phrase", x.told(5), 1);
        C.due("23: back", x.back(), 0);
        C.due("23: marks", x.marks(3, 0), 0);
        C.due("23: back", x.back(), 0);
        C.due("23: older ones are lost", x.back(), NO);
        C.due("23: metre stays", x.told(7), 7);
        SungLines y = with("f0a;f0b;la;");
        y.sings(1);
        y.type(65);
        y.letter(9);
        C.due("23: back", y.back(), 1);
        C.due("23: habits", y.of(0, 5), 0);
        C.due("23: not the text", y.told(4), 12);
        C.due("23: not how often refused", y.told(0), 1);
        y.drops(0);
        y.back();
        C.due("23: a dropped phrase", y.of(0, 3), 1);
        C.due("23: the one behind it", y.of(1, 3), 2);
        y.of(9, 9);
        y.cuts();
        y.phrase(0, 1);
        C.due("23: questions and what is refused leave none", y.told(14), 1);
    }

    private static void tell(SungLines x, int kind) {
        switch (kind) {
            case 0: x.phrase(2, 15); break;
            case 1: x.drops(0); break;
            case 2: x.begins(7); break;
            case 3: x.ends(7); break;
            case 4: x.follows(3, 1); break;
            case 5: x.letter(4); break;
            case 6: x.wipes(); break;
            case 7: x.sings(1); break;
            case 8: x.metre(5); break;
            case 9: x.marks(39, 1); break;
            default: x.reads();
        }
    }

    /** Each call told S leaves just what was ahead of it, whatever states were left before. */
    private static void backOverEach() {
        for (int kind = 0; kind <= 10; kind++) {
            SungLines x = with("f0a;f1eb;laeba;s0;k3 2;");
            read(x, "f0b;f1e;b14;l;");
            read(x, "x0;t30;k3 1;lebe;w0 1;w1 14;b15;");
            long before = x.digest();
            tell(x, kind);
            C.due("23: a state by kind " + kind, x.told(14), 4);
            C.due("23: back over kind " + kind, x.back(), 3);
            C.due("23: all is as it was, kind " + kind, x.digest(), before);
        }
        SungLines y = with("f0ab;laba;");
        y.drops(0);
        y.phrase(0, 1);
        y.back();
        y.back();
        y.letter(2);
        C.due("23: a phrase is whole again", y.cuts(), 1);
        C.due("23: its letters", y.of(0, 1), 2);
        C.due("23: its morae", y.of(0, 2), 2);
    }

    // ---- 24, 25

    private static void told() {
        String text = "f0a;f1a;f2a;f3a;laaa;b14;e13;w0 11;w1 7;w2 3;w3 1;t9;";
        SungLines x = with(text);
        x.told(-1);
        x.told(15);
        x.told(LOW);
        x.phrase(0, 1);
        x.phrase(1, 1);
        for (int n = 4; n <= 41; n++) {
            x.letter(1);
        }
        int[] facts = {3, 2, 1, 0, text.length(), 4, 40, 9, 14, 13, 11, 7, 3, 1, 5};
        for (int what = 0; what < facts.length; what++) {
            C.due("24: told(" + what + ")", x.told(what), facts[what]);
        }
        read(x, "b15;e15;w0 15;w1 15;w2 15;w3 15;");
        x.cuts();
        x.cuts();
        C.due("24: MUCH", x.told(3), 2);
        C.due("24: BAD", x.told(15), BAD);
        C.due("24: counted", x.told(0), 4);
    }

    private static long digestOf(long... values) {
        long h = 2399;
        for (long v : values) {
            h = 31 * h + v;
        }
        return h;
    }

    private static void digest() {
        long[] fresh = new long[15 + 39 + 2 + 15];
        long[] told = {0, 0, 0, 0, 0, 0, 0, 12, 15, 15, 15, 15, 15, 15, 0};
        System.arraycopy(told, 0, fresh, 0, 15);
        for (int m = 0; m < 3; m++) {
            for (int s = 0; s < 4; s++) {
                fresh[15 + 39 + 2 + 5 * m + 1 + s] = NONE;
            }
        }
        SungLines x = new SungLines();
        C.due("25: a new object", x.digest(), digestOf(fresh));
        C.due("25: it changes nothing", x.digest(), digestOf(fresh));
        SungLines y = new SungLines();
        read(y, "f2ae;f0b;laeb;s1;k2 1;k39 2;t4;");
        y.clear();
        y.drops(5);
        long[] due = new long[15 + 14 + 3 + 39 + 2 + 15];
        long[] head = {1, 0, 0, 0, 0, 2, 3, 4, 15, 15, 15, 15, 15, 15, 1,
            2, 2, 3, 15, 0, 1, 0, 0, 1, 1, 2, 0, 1, 0, 1, 5, 2};
        System.arraycopy(head, 0, due, 0, head.length);
        due[head.length + 1] = 1;
        due[head.length + 38] = 2;
        // the line is cut as ae b; b b b b alone has a break at 2
        long[] tail = {1, 1, 1, NONE, NONE, NONE, NONE, 16, 1, NONE, 0, NONE, 1, NONE, NONE, NONE, NONE};
        System.arraycopy(tail, 0, due, due.length - tail.length, tail.length);
        C.due("25: with all parts", y.digest(), digestOf(due));
        SungLines z = with("f0a;f1a;f2a;f3a;t40;laaaaaaaaaaaaaaaaaaaaaaaaaaaaaaaaaaaaaaaa;");
        long first = z.digest();
        long[] much = new long[15 + 28 + 40 + 39 + 2 + 15];
        long[] told2 = {0, 0, 0, 0, z.told(4), 4, 40, 40, 15, 15, 15, 15, 15, 15, 1};
        System.arraycopy(told2, 0, much, 0, 15);
        for (int i = 0; i < 4; i++) {
            long[] of = {i, 1, 1, 1, 0, 0, 0};
            System.arraycopy(of, 0, much, 15 + 7 * i, 7);
        }
        java.util.Arrays.fill(much, 43, 83, 1);
        java.util.Arrays.fill(much, 122, 139, NONE);
        for (int k : new int[] {122, 123, 124, 129, 134}) {
            much[k] = MUCH;
        }
        C.due("25: TOO MUCH", first, digestOf(much));
        C.due("25: TOO MUCH is not counted", z.told(3), 0);
        C.due("25: TOO MUCH is not counted", z.digest(), first);
    }

    // ---- all rows full

    private static void fullHouse() {
        SungLines x = with("f0a;f0b;f0c;f0d;f1a;f1b;f1c;f1d;f2a;f2b;f2c;f2d;labcdabcdabcdabcdabcdabcdabcdabcdabcdabcd;t40;");
        C.due("full: 3 to the 40th", x.cuts(), MUCH);
        C.due("full: best", x.best(0, NONE), 40);
        C.due("full: best", x.best(0, 39), 3);
        C.due("full: sings", x.sings(0), 40);
        C.due("full: fixes", x.fixes(0, 0), NONE);
        C.due("full: fixes", x.fixes(0, 2), NONE);
        C.due("full: made", x.made(), MUCH);
        x.metre(17);
        C.due("full: 12 to the 17th", x.made(), 2218611106740436992L);
        C.due("full: the last row", x.row(2218611106740436991L, 16), 11);
        C.due("full: no more", x.row(2218611106740436992L, 16), NO);
        x.metre(2);
        C.due("full: weights of 11 four times, of 1 eight times", x.weight(0, NONE), 52 * 52);
        C.due("full: the last one", x.weight(0, 11), 52);
        x.metre(40);
        read(x, "w0 8;w1 8;w2 8;");
        C.due("full: one phrase alone is too short", x.made(), 0);
        read(x, "w0 1;w1 2;w2 4;x1;x1;x1;x1;x1;x1;x1;x1;");
        C.due("full: a phrase stays", x.told(5), 4);
        read(x, "x1;x1;x1;laaaaaaaaaaaaaaaaaaaaaaaaaaaaaaaaaaaaaaaa;");
        C.due("full: a alone", x.made(), 1);
        C.due("full: 40 of them", x.row(0, NONE), 40);
        C.due("full: the 40th", x.row(0, 39), 0);
        C.due("full: cuts", x.cuts(), 1);
    }

    // ---- what is refused

    private static void refusalsChangeNothing() {
        SungLines x = with("f0a;f1e;lae;s0;");
        long facts = x.digest();
        int[] before = new int[15];
        for (int what = 0; what < 15; what++) {
            before[what] = x.told(what);
        }
        x.phrase(0, 9);
        x.phrase(0, 1);
        x.drops(2);
        x.begins(16);
        x.ends(16);
        x.follows(0, 16);
        x.letter(0);
        x.sings(3);
        x.metre(0);
        x.marks(0, 0);
        x.row(-1, 0);
        x.type(200);
        for (int what = 4; what < 15; what++) {
            C.due("refused: told(" + what + ")", x.told(what), before[what]);
        }
        C.due("refused: BAD", x.told(0), 11);
        C.due("refused: NO", x.told(1), 1);
        // h is linear in told(0) and told(1), which are its first two values
        long p = 1;
        int behind = 13 + 14 + 2 + 39 + 2 + 15;
        for (int k = 0; k < behind; k++) {
            p *= 31;
        }
        C.due("refused: all else", x.digest(), facts + p * (11 * 31 + 1));
    }

    private static void orderOfRefusals() {
        SungLines x = with("f0a;f1a;f2a;f3a;t40;e0;");
        C.due("order: ends 0 is not too much", x.made(), 0);
        C.due("order: NO", x.row(0, 0), NO);
        x.ends(15);
        C.due("order: BAD ahead of MUCH", x.row(-1, 0), BAD);
        C.due("order: BAD ahead of MUCH", x.row(0, -2), BAD);
        C.due("order: BAD ahead of MUCH", x.weight(0, 4), BAD);
        C.due("order: BAD ahead of MUCH", x.picks(0, -1, 0), BAD);
        x.begins(0);
        C.due("order: MUCH ahead of NO", x.row(0, 0), MUCH);
        C.due("order: MUCH ahead of NO", x.picks(0, 0, 0), MUCH);
    }
}
