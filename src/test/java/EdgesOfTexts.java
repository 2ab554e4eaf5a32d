import java.math.BigInteger;
import java.util.ArrayList;
import java.util.Arrays;
import java.util.List;

/** Promises 20 to 25: texts. */
final class EdgesOfTexts extends EdgeCase {

    // ---- 20: type

    @Says({"A byte (0 .. 127) comes behind THE TEXT:", "how many it has."})
    void p20_bytes0And127AreTheLeastAndTheMost() {
        due(x.type(0), 1);
        due(x.type(127), 2);
        due(x.told(4), 2);
    }

    @Says("BAD;")
    void p20_below0IsBad() {
        due(x.type(-1), BAD);
        due(x.type(LOW), BAD);
        due(x.told(4), 0);
    }

    @Says("BAD;")
    void p20_above127IsBad() {
        due(x.type(128), BAD);
        due(x.type(256 + 'b'), BAD);
        due(x.type(HIGH), BAD);
        due(x.told(4), 0);
    }

    @Says("how many it has.")
    void p20_the150thComes() {
        for (int n = 1; n <= 150; n++) {
            due(x.type(n % 128), n);
        }
        due(x.told(4), 150);
    }

    @Says("FULL: 150.")
    void p20_the151stIsFull() {
        type(" ".repeat(150));
        due(x.type(' '), FULL);
        due(x.told(4), 150);
        refusedAre(0, 0, 1, 0);
    }

    @Says({"BAD;", "FULL: 150."})
    void p20_badIsAheadOfFull() {
        type(" ".repeat(150));
        due(x.type(128), BAD);
        refusedAre(1, 0, 0, 0);
    }

    @Says("A byte (0 .. 127) comes behind THE TEXT:")
    void p20_itComesBehindNotAhead() {
        x.type('t');
        x.type('1');
        x.type('2');
        x.type(';');
        due(x.reads(), 1);
    }

    @Says("A byte (0 .. 127) comes behind THE TEXT:")
    void p20_itLeavesNoState() {
        x.type('t');
        statesAre(0);
    }

    // ---- 21: clear

    @Says({"THE TEXT is empty:", "how many it had."})
    void p21_aFullText() {
        type(" ".repeat(150));
        due(x.clear(), 150);
        due(x.told(4), 0);
        due(x.type('b'), 1);
    }

    @Says("how many it had.")
    void p21_anEmptyTextHad0() {
        due(x.clear(), 0);
        due(x.clear(), 0);
        refusedAre(0, 0, 0, 0);
    }

    /** What stood there is not read any more. */
    @Says("THE TEXT is empty:")
    void p21_whatWasThereIsGone() {
        type("b1;b2;");
        x.clear();
        due(x.reads(), -10);
        x.type('b');
        due(x.reads(), -11);
    }

    @Says("THE TEXT is empty:")
    void p21_itLeavesNoState() {
        x.type('b');
        x.clear();
        statesAre(0);
    }

    // ---- 22: reads

    @Says({"ORDERS are done", "how many."})
    void p22_oneOrder() {
        due(read("t1;"), 1);
        due(x.told(7), 1);
    }

    @Says("how many.")
    void p22_75OrdersAreTheMost() {
        due(read("l;".repeat(75)), 75);
    }

    @Says("ORDERS are done")
    void p22_eachOrderFindsWhatTheOthersDid() {
        due(read("f0a;la;s1;f1a;x0;b2;s1;s1;"), 8);
        habitsAre(1, 2);
        due(x.of(0, 0), 1);
    }

    @Says("(THE TEXT stays):")
    void p22_theTextStays() {
        due(read("la;l;"), 2);
        due(x.told(4), 5);
        due(x.reads(), 2);
        due(x.clear(), 5);
    }

    @Says("(THE TEXT stays):")
    void p22_theTextStaysBehindAFaultAndAStop() {
        due(read("b16;"), -1000);
        due(x.told(4), 4);
        due(read("b1"), -12);
        due(x.told(4), 2);
        x.type(';');
        due(x.reads(), 1);
    }

    @Says("S (one STATE for all).")
    void p22_manyOrdersLeaveOneState() {
        due(read("b1;b2;b3;b4;b5;b6;b7;"), 7);
        statesAre(1);
        due(x.back(), 0);
        due(x.told(8), 15);
    }

    @Says("S (one STATE for all).")
    void p22_itIsTheFifthAndTheSixthLikeOthers() {
        for (int n = 1; n <= 4; n++) {
            x.metre(n);
        }
        due(read("t5;t6;"), 2);
        statesAre(5);
        due(x.reads(), 2);
        statesAre(5);
        due(x.back(), 4);
        due(x.told(7), 6);
        due(x.back(), 3);
        due(x.told(7), 4);
    }

    @Says("S (one STATE for all).")
    void p22_aFaultAndAStopLeaveNone() {
        due(read("b1;b"), -14);
        statesAre(0);
        due(read("b1;b16;"), -1001);
        statesAre(0);
        due(x.back(), NO);
    }

    @Says("-10 less the FAULT;")
    void p22_aFaultAt0IsMinus10() {
        due(x.reads(), -10);
        due(read("q"), -10);
    }

    @Says("-10 less the FAULT;")
    void p22_aFaultAt150IsMinus160() {
        due(read(" ".repeat(149) + "l"), -160);
        due(x.clear(), 150);
        due(read(" ".repeat(149) + "q"), -159);
    }

    @Says("-1000 less the number (0 on) of the ORDER that stops all.")
    void p22_theFirstOrderThatStopsIsMinus1000() {
        due(read("t0;"), -1000);
    }

    @Says("-1000 less the number (0 on) of the ORDER that stops all.")
    void p22_theFirstOfTwoThatWouldStop() {
        due(read("t1;t0;t2;t0;"), -1001);
        due(x.told(7), 12);
    }

    @Says("-1000 less the number (0 on) of the ORDER that stops all.")
    void p22_the74thOrderThatStopsIsMinus1073() {
        due(read("l;".repeat(73) + "t0;"), -1073);
    }

    // ---- 23: back

    @Says({"A STATE back:", "how many can be yet."})
    void p23_theLastOneLeaves0() {
        x.metre(5);
        due(x.back(), 0);
        due(x.told(7), 12);
    }

    @Says("how many can be yet.")
    void p23_fiveLeave4To0() {
        for (int n = 1; n <= 9; n++) {
            x.metre(n);
        }
        for (int n = 4; n >= 0; n--) {
            due(x.back(), n);
            statesAre(n);
            due(x.told(7), 4 + n);
        }
    }

    @Says("NO: none.")
    void p23_ofANewObjectIsNo() {
        due(x.back(), NO);
        refusedAre(0, 1, 0, 0);
        statesAre(0);
    }

    @Says("NO: none.")
    void p23_behindTheLastIsNoAndChangesNothing() {
        x.metre(5);
        x.metre(6);
        x.back();
        x.back();
        long before = image();
        due(x.back(), NO);
        due(x.back(), NO);
        due(image(), before);
        x.metre(7);
        due(x.back(), 0);
        due(x.told(7), 12);
    }

    // ---- 24: told

    @Says("How often refused: BAD (0), NO (1), FULL (2), MUCH (3);")
    void p24_whats0To3AreHowOftenRefused() {
        phrases("0a", "1a", "2a");
        line("a".repeat(40));
        for (int k = 0; k < 4; k++) {
            x.letter(0);
        }
        for (int k = 0; k < 3; k++) {
            x.phrase(0, 1);
        }
        for (int k = 0; k < 2; k++) {
            x.letter(1);
        }
        x.cuts();
        refusedAre(4, 3, 2, 1);
    }

    @Says({"bytes of THE TEXT (4),", "PHRASES (5),", "LETTERS of THE LINE (6),", "T (7),"})
    void p24_whats4To7AreSizes() {
        type("t0;!");
        phrases("0a", "1a", "2a");
        line("aa");
        x.metre(9);
        due(x.told(4), 4);
        due(x.told(5), 3);
        due(x.told(6), 2);
        due(x.told(7), 9);
    }

    @Says({"BEGINS (8),", "ENDS (9),", "FOLLOWS of 0 to 3 (10 to 13),"})
    void p24_whats8To13AreSets() {
        x.begins(1);
        x.ends(2);
        for (int s = 0; s < 4; s++) {
            x.follows(s, 3 + s);
        }
        for (int what = 8; what <= 13; what++) {
            due(x.told(what), what - 7);
        }
    }

    @Says("STATES (14).")
    void p24_what14IsStates() {
        due(x.told(14), 0);
        for (int n = 1; n <= 7; n++) {
            x.metre(n);
            due(x.told(14), Math.min(n, 5));
        }
    }

    @Says("BAD.")
    void p24_below0IsBad() {
        due(x.told(-1), BAD);
        due(x.told(LOW), BAD);
        due(x.told(0), 2);
    }

    @Says("BAD.")
    void p24_above14IsBad() {
        due(x.told(15), BAD);
        due(x.told(HIGH), BAD);
        due(x.told(0), 2);
    }

    // ---- 25: digest

    private final List<Long> values = new ArrayList<>();

    private void add(long... more) {
        for (long v : more) {
            values.add(v);
        }
    }

    private void addMarks(int... placesAndMarks) {
        Long[] marks = new Long[40];
        Arrays.fill(marks, 0L);
        for (int k = 0; k < placesAndMarks.length; k += 2) {
            marks[placesAndMarks[k]] = (long) placesAndMarks[k + 1];
        }
        values.addAll(Arrays.asList(marks).subList(1, 40));
    }

    /** With no bound to h, and only then what is left of it in 64 bits. */
    private long digestOfValues() {
        BigInteger h = BigInteger.valueOf(2399);
        for (long v : values) {
            h = h.multiply(BigInteger.valueOf(31)).add(BigInteger.valueOf(v));
        }
        return h.longValue();
    }

    @Says({"h = 2399; then h = 31 h + v for each v:", "told(0) to told(14);"})
    void p25_aNewObject() {
        add(0, 0, 0, 0, 0, 0, 0, 12, 15, 15, 15, 15, 15, 15, 0);
        addMarks();
        add(0, 0);
        for (int m = 0; m < 3; m++) {
            add(0, NONE, NONE, NONE, NONE);
        }
        due(x.digest(), digestOfValues());
    }

    @Says("told(0) to told(14);")
    void p25_eachOfToldCounts() {
        type("z");
        x.metre(1);
        x.begins(8);
        x.ends(4);
        x.follows(0, 1);
        x.follows(1, 2);
        x.follows(2, 3);
        x.follows(3, 4);
        x.letter(9);
        x.best(0, 0);
        add(1, 1, 0, 0, 1, 0, 0, 1, 8, 4, 1, 2, 3, 4, 5);
        addMarks();
        add(0, 0);
        for (int m = 0; m < 3; m++) {
            add(0, NONE, NONE, NONE, NONE);
        }
        due(x.digest(), digestOfValues());
    }

    @Says({"of PHRASES of(0) to of(6);", "LETTERS of THE LINE (1 to 8);", "how many CUTS (TOO MUCH: -5);",
        "how many MADE ROWS (likewise);", "MAKER by MAKER ALL WEIGHT (likewise),", "fixes() of SLOTS 0 to 3."})
    void p25_phrasesLettersRowsWeightsAndWhatIsFixed() {
        phrases("2ae", "0h");
        sing(1, "ae", 1);
        line("hae");
        x.metre(5);
        // rows of 5 morae: ae h, h ae
        add(0, 0, 0, 0, 0, 2, 3, 5, 15, 15, 15, 15, 15, 15, 5);
        add(2, 2, 3, 15, 0, 1, 0);
        add(0, 1, 2, 8, 0, 0, 0);
        add(8, 1, 5);
        addMarks();
        add(1, 2);
        add(2, NONE, NONE, NONE, NONE);
        add(4, NONE, NONE, 0, NONE);
        add(2, NONE, NONE, NONE, NONE);
        due(x.digest(), digestOfValues());
    }

    @Says("MARKS of places 1 to 39;")
    void p25_marksOfPlaces1And39AndOfThoseAboveT() {
        x.marks(1, 1);
        x.marks(39, 2);
        add(0, 0, 0, 0, 0, 0, 0, 12, 15, 15, 15, 15, 15, 15, 2);
        addMarks(1, 1, 39, 2);
        add(0, 0);
        for (int m = 0; m < 3; m++) {
            add(0, NONE, NONE, NONE, NONE);
        }
        due(x.digest(), digestOfValues());
    }

    @Says("LETTERS of THE LINE (1 to 8);")
    void p25_aFullLine() {
        line("abcdefgh".repeat(5));
        add(0, 0, 0, 0, 0, 0, 40, 12, 15, 15, 15, 15, 15, 15, 5);
        for (int k = 0; k < 40; k++) {
            add(1 + k % 8);
        }
        addMarks();
        add(0, 0);
        for (int m = 0; m < 3; m++) {
            add(0, NONE, NONE, NONE, NONE);
        }
        due(x.digest(), digestOfValues());
    }

    @Says("of PHRASES of(0) to of(6);")
    void p25_twelvePhrases() {
        twelveOfOneMora();
        x.metre(1);
        add(0, 0, 0, 0, 0, 12, 0, 1, 15, 15, 15, 15, 15, 15, 5);
        for (int i = 0; i < 12; i++) {
            add(i / 4, 1, 1, 1 + i % 4, 0, 0, 0);
        }
        addMarks();
        add(0, 12);
        for (int m = 0; m < 3; m++) {
            add(12, NONE, NONE, NONE, NONE);
        }
        due(x.digest(), digestOfValues());
    }

    private void addFourOfA(int habitOfMaker2) {
        for (int s = 0; s < 4; s++) {
            add(s, 1, 1, 1, 0, 0, s == 0 ? habitOfMaker2 : 0);
        }
    }

    @Says("how many CUTS (TOO MUCH: -5);")
    void p25_cutsAloneAreTooMuch() {
        fourOfA();
        line("a".repeat(32));
        x.metre(1);
        add(0, 0, 0, 0, 0, 4, 32, 1, 15, 15, 15, 15, 15, 15, 5);
        addFourOfA(0);
        for (int k = 0; k < 32; k++) {
            add(1);
        }
        addMarks();
        add(MUCH, 4);
        for (int m = 0; m < 3; m++) {
            add(4, NONE, NONE, NONE, NONE);
        }
        due(x.digest(), digestOfValues());
        refusedAre(0, 0, 0, 0);
    }

    @Says({"how many MADE ROWS (likewise);", "MAKER by MAKER ALL WEIGHT (likewise),"})
    void p25_madeRowsAndWeightsAreTooMuch() {
        fourOfA();
        x.metre(32);
        add(0, 0, 0, 0, 0, 4, 0, 32, 15, 15, 15, 15, 15, 15, 5);
        addFourOfA(0);
        addMarks();
        add(0, MUCH);
        for (int m = 0; m < 3; m++) {
            add(MUCH, NONE, NONE, NONE, NONE);
        }
        due(x.digest(), digestOfValues());
        refusedAre(0, 0, 0, 0);
    }

    /** 4 to the 31st rows; with a HABIT of 1 it would be 5 to the 31st. */
    @Says("MAKER by MAKER ALL WEIGHT (likewise),")
    void p25_theWeightOfOneMakerAloneIsTooMuch() {
        fourOfA();
        sing(2, "a", 1);
        x.wipes();
        x.metre(31);
        add(0, 0, 0, 0, 0, 4, 0, 31, 15, 15, 15, 15, 15, 15, 5);
        addFourOfA(1);
        addMarks();
        add(0, 4611686018427387904L);
        add(4611686018427387904L, NONE, NONE, NONE, NONE);
        add(4611686018427387904L, NONE, NONE, NONE, NONE);
        add(MUCH, 0, NONE, NONE, NONE);
        due(x.digest(), digestOfValues());
        refusedAre(0, 0, 0, 0);
    }

    @Says("fixes() of SLOTS 0 to 3.")
    void p25_aSlotOfEachMakerIsFixed() {
        fourOfA();
        x.metre(1);
        for (int m = 0; m < 3; m++) {
            x.begins(1 << m + 1);
            sing(m, "a", 1);
        }
        add(0, 0, 0, 0, 0, 4, 1, 1, 8, 15, 15, 15, 15, 15, 5);
        for (int s = 0; s < 4; s++) {
            add(s, 1, 1, 1, s == 1 ? 1 : 0, s == 2 ? 1 : 0, s == 3 ? 1 : 0);
        }
        add(1);
        addMarks();
        add(1, 1);
        add(1, NONE, 1, NONE, NONE);
        add(1, NONE, NONE, 2, NONE);
        add(2, NONE, NONE, NONE, 3);
        due(x.digest(), digestOfValues());
    }

    @Says("h = 2399; then h = 31 h + v for each v:")
    void p25_itChangesNothing() {
        phrases("0a", "1a", "2a", "3a");
        x.metre(40);
        long before = x.digest();
        due(x.digest(), before);
        due(x.digest(), before);
        refusedAre(0, 0, 0, 0);
        statesAre(5);
    }
}
