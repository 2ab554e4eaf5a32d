/** Terms, 2: the text, its orders, its faults. */
final class EdgesOfOrders extends EdgeCase {

    /** -10 less the FAULT; nothing is done, nothing counts. */
    private void faultAt(int place, String text) {
        type(text);
        long before = imageWithout();
        due(x.reads(), -10 - place);
        due(imageWithout(), before);
    }

    /** -1000 less the ORDER's number; nothing is done, nothing counts. */
    private void stopAt(int order, String text) {
        type(text);
        long before = imageWithout();
        due(x.reads(), -1000 - order);
        due(imageWithout(), before);
    }

    @Says("THE TEXT (150 bytes at most)")
    void terms_theTextHas150BytesAtMost() {
        type("b1;" + " ".repeat(147));
        due(x.told(4), 150);
        due(x.type(' '), FULL);
        due(x.told(4), 150);
        due(x.reads(), 1);
    }

    /** Its last byte is the one that ends the ORDER. */
    @Says("THE TEXT (150 bytes at most)")
    void terms_the150thByteIsReadToo() {
        due(read(" ".repeat(147) + "b1;"), 1);
        due(x.told(8), 1);
        faultAt(150, " ".repeat(147) + "b1 ");
        faultAt(149, " ".repeat(147) + "b1f");
    }

    // ---- orders

    @Says("tells ORDERS, each ended by ; :")
    void terms_anOrderThatIsNotEndedIsAFault() {
        faultAt(2, "b1");
        faultAt(5, "b1;b1");
    }

    @Says("tells ORDERS, each ended by ; :")
    void terms_anOrderThatBeginsBeforeTheOtherIsEndedIsAFault() {
        faultAt(2, "b1b2;");
        faultAt(3, "b1 b2;");
        faultAt(1, "lx0;");
    }

    @Says("tells ORDERS, each ended by ; :")
    void terms_noOrderAheadOfAnEndIsAFault() {
        faultAt(0, ";");
        faultAt(3, "b1;;");
        faultAt(4, "b1; ;");
    }

    @Says("tells ORDERS, each ended by ; :")
    void terms_noOtherByteBeginsAnOrder() {
        String orders = "flbewtksx";
        for (char c = 0; c < 128; c++) {
            if (c != ' ' && orders.indexOf(c) < 0) {
                x.clear();
                x.type(c);
                due(x.reads(), -10);
            }
        }
    }

    @Says("f SLOT LETTERS (as phrase);")
    void terms_fIsAsPhrase() {
        due(read("f0a;f3efghab;"), 2);
        due(x.told(5), 2);
        due(x.of(0, 0), 0);
        due(x.of(0, 3), 1);
        due(x.of(1, 0), 3);
        due(x.of(1, 3), 567812);
    }

    @Says("f SLOT LETTERS (as phrase);")
    void terms_fWithoutSlotOrLettersIsAFault() {
        faultAt(1, "fa;");
        faultAt(2, "f0;");
        faultAt(3, "f0 ;");
        faultAt(1, "f;");
    }

    @Says("l LETTERS (THE LINE is these; perhaps none);")
    void terms_lOfNoLettersIsAnEmptyLine() {
        line("abc");
        due(read("l;"), 1);
        due(x.told(6), 0);
        due(read("l  ;"), 1);
        statesAre(5);
    }

    @Says("l LETTERS (THE LINE is these; perhaps none);")
    void terms_lOf40LettersIsAFullLine() {
        line("abc");
        due(read("l" + "abcdefgh".repeat(5) + ";"), 1);
        due(x.told(6), 40);
        phrases("0abcdef", "0ghabcd", "0efgh");
        due(x.cuts(), 0);
        phrases("0gh");
        // one gh more or ghabcd efgh: ways to make 5 of 1 and 2
        due(x.cuts(), 8);
    }

    @Says("l LETTERS (THE LINE is these; perhaps none);")
    void terms_lTakesTheOtherLettersAway() {
        phrases("0bc");
        line("a");
        due(read("lbc;"), 1);
        due(x.told(6), 2);
        due(x.cuts(), 1);
    }

    @Says("b v (as begins),")
    void terms_bIsAsBegins() {
        due(read("b0;"), 1);
        due(x.told(8), 0);
        due(read("b15;"), 1);
        due(x.told(8), 15);
        stopAt(0, "b16;");
    }

    @Says("e v (as ends);")
    void terms_eIsAsEnds() {
        due(read("e0;"), 1);
        due(x.told(9), 0);
        due(read("e15;"), 1);
        due(x.told(9), 15);
        stopAt(0, "e16;");
    }

    @Says("w s v (as follows);")
    void terms_wIsAsFollows() {
        due(read("w0 0;w3 9;"), 2);
        due(x.told(10), 0);
        due(x.told(13), 9);
        due(read("w0 15;"), 1);
        due(x.told(10), 15);
        stopAt(0, "w0 16;");
        stopAt(0, "w4 0;");
    }

    @Says("t T (as metre);")
    void terms_tIsAsMetre() {
        due(read("t1;"), 1);
        due(x.told(7), 1);
        due(read("t40;"), 1);
        due(x.told(7), 40);
        stopAt(0, "t0;");
        stopAt(0, "t41;");
    }

    @Says("k place v (as marks);")
    void terms_kIsAsMarks() {
        due(read("k1 2;k39 1;"), 2);
        stopAt(0, "k0 0;");
        stopAt(0, "k40 0;");
        stopAt(0, "k1 3;");
        due(x.marks(1, 0), 2);
        due(x.marks(39, 0), 1);
    }

    @Says("s m (as sings);")
    void terms_sIsAsSings() {
        phrases("0a");
        line("aa");
        due(read("s0;s2;s2;"), 3);
        habitsAre(0, 2);
        habitsAre(1, 0);
        habitsAre(2, 4);
        stopAt(0, "s3;");
        line("b");
        stopAt(0, "s0;");
    }

    @Says("x i (as drops).")
    void terms_xIsAsDrops() {
        twelveOfOneMora();
        due(read("x11;x0;"), 2);
        due(x.told(5), 10);
        due(x.of(0, 3), 2);
        due(x.of(9, 3), 3);
        stopAt(0, "x10;");
    }

    // ---- numbers, letters, blanks

    @Says("Numbers have 1 or 2 figures;")
    void terms_aNumberOfOneFigure() {
        due(read("b9;"), 1);
        due(x.told(8), 9);
    }

    @Says("Numbers have 1 or 2 figures;")
    void terms_aNumberOfTwoFigures() {
        due(read("b10;e09;t00;"), -1002);
        due(read("b10;e09;"), 2);
        due(x.told(8), 10);
        due(x.told(9), 9);
    }

    @Says("Numbers have 1 or 2 figures;")
    void terms_aNumberOfNoFigureIsAFault() {
        faultAt(1, "b;");
        faultAt(2, "b ;");
        faultAt(2, "w1;");
        faultAt(3, "w1 ;");
    }

    @Says("Numbers have 1 or 2 figures;")
    void terms_the10FiguresAreAllThatANumberHas() {
        for (char c = '0'; c <= '9'; c++) {
            x.clear();
            x.type('b');
            x.type(c);
            x.type(';');
            due(x.reads(), 1);
            due(x.told(8), c - '0');
        }
        faultAt(1, "b/;");
        faultAt(1, "b:;");
        faultAt(1, "b-1;");
        faultAt(1, "b+1;");
        faultAt(2, "b1/;");
        faultAt(2, "b1:;");
    }

    @Says("LETTERS stand side by side;")
    void terms_aToHAreAllTheLetters() {
        due(read("f0abcdef;f0gh;"), 2);
        faultAt(2, "f1i;");
        faultAt(2, "f1`;");
        faultAt(2, "f1A;");
        faultAt(3, "f1ai;");
        faultAt(1, "li;");
        faultAt(2, "lai;");
        faultAt(2, "la1;");
    }

    @Says("LETTERS stand side by side;")
    void terms_aBlankWithinLettersIsAFaultAtTheNextLetter() {
        faultAt(4, "f0a b;");
        faultAt(5, "f0a  b;");
        faultAt(3, "la b;");
    }

    @Says("blanks (32) may stand anywhere but within a number or LETTERS,")
    void terms_blanksMayStandEverywhereElse() {
        due(read("  f  0  ab  ;  w  1  2  ;  l  ab  ;  l  ;  b  3  ;  "), 5);
        due(x.told(5), 1);
        due(x.of(0, 3), 12);
        due(x.told(11), 2);
        due(x.told(8), 3);
    }

    @Says("blanks (32) may stand anywhere but within a number or LETTERS,")
    void terms_aBlankWithinANumberIsAFaultAtTheNextFigure() {
        faultAt(3, "b1 0;");
        faultAt(4, "b1  0;");
        faultAt(3, "f0 0a;");
        faultAt(5, "k3 9 1;");
        faultAt(5, "w1 1 5;");
    }

    @Says("blanks (32) may stand anywhere but within a number or LETTERS,")
    void terms_noOtherByteIsABlank() {
        faultAt(0, "\tb1;");
        faultAt(1, "b\t1;");
        faultAt(2, "b1\n;");
        faultAt(3, "b1;\r");
        faultAt(3, "b1;\u0000");
        faultAt(0, "\u007fb1;");
        faultAt(2, "w1\t1;");
        faultAt(1, "l!;");
        faultAt(1, "l\u001f;");
    }

    @Says("needed only between two numbers.")
    void terms_noBlankIsNeededElsewhere() {
        due(read("f0ab;lab;b3;e3;t5;s0;x0;w1 2;k1 2;"), 9);
    }

    @Says("needed only between two numbers.")
    void terms_withoutABlankTwoNumbersAreOne() {
        faultAt(3, "w12;");
        faultAt(3, "k12;");
        faultAt(2, "w1;");
    }

    // ---- faults

    @Says("FAULT: the place of the first byte that can not stand there")
    void terms_theFirstOfTwoFaults() {
        faultAt(1, "bz;z");
        faultAt(3, "b1;z;bz");
    }

    @Says("FAULT: the place of the first byte that can not stand there")
    void terms_theFirstPlaceIs0() {
        faultAt(0, "z");
        faultAt(0, "1");
        faultAt(0, "a");
    }

    @Says("(a third figure,")
    void terms_aThirdFigureIsAFault() {
        faultAt(3, "b100;");
        faultAt(3, "b001;");
        faultAt(3, "f000a;");
        faultAt(3, "w123;");
        faultAt(3, "k111 1;");
        faultAt(5, "w1 150;");
        faultAt(6, "k10 010;");
    }

    @Says("(a third figure,")
    void terms_aThirdFigureAtTheEndOfTheTextIsAFault() {
        faultAt(3, "b100");
        faultAt(3, "b10");
    }

    @Says("a 7th LETTER of f,")
    void terms_a7thLetterOfFIsAFault() {
        faultAt(8, "f0abcdefg;");
        faultAt(9, "f0 abcdefg;");
        faultAt(8, "f0abcdefghh;");
        due(read("f0abcdef;"), 1);
    }

    @Says("a 41st of l, too);")
    void terms_a41stLetterOfLIsAFault() {
        faultAt(41, "l" + "a".repeat(41) + ";");
        faultAt(42, "l " + "a".repeat(41) + ";");
        faultAt(41, "l" + "a".repeat(60) + ";");
        due(read("l" + "a".repeat(40) + ";"), 1);
    }

    @Says("the TEXT's length, if it ends too early")
    void terms_aTextThatEndsWithinAnOrder() {
        String[] early = {"f", "f0", "f0 ", "f0a", "f0a ", "l", "la", "b", "b ", "b1", "b1 ", "w", "w1", "w1 ", "w1 2", "k1",
            "b1;s", "b1;l", "f0abcdef", "b10"};
        for (String text : early) {
            faultAt(text.length(), text);
        }
    }

    @Says("(an empty one,")
    void terms_anEmptyTextIsAFaultAt0() {
        due(x.reads(), -10);
        type("b1;");
        x.clear();
        due(x.reads(), -10);
        statesAre(0);
    }

    @Says("one of blanks alone, too).")
    void terms_aTextOfBlanksIsAFaultAtItsLength() {
        faultAt(1, " ");
        faultAt(3, "   ");
        faultAt(150, " ".repeat(150));
    }

    @Says("If there is one, nothing is done.")
    void terms_ordersAheadOfAFaultAreNotDone() {
        faultAt(24, "f0a;la;s0;t3;b1;e1;w0 1;z");
        due(x.told(5), 0);
        statesAre(0);
    }

    @Says("If there is one, nothing is done.")
    void terms_aFaultGoesAheadOfAnOrderThatWouldStop() {
        faultAt(4, "b16;z");
        faultAt(6, "x0;b1 ");
    }

    // ---- orders that stop all

    @Says("An ORDER that its call would refuse stops all: nothing is done.")
    void terms_ordersAheadOfAStopAreNotDone() {
        fourOfA();
        line("a");
        stopAt(8, "s0;x0;lh;b0;e0;w0 0;t1;k1 1;x9;");
    }

    @Says("An ORDER that its call would refuse stops all: nothing is done.")
    void terms_ordersBehindAStopAreNotDone() {
        stopAt(0, "b16;e0;t1;");
        stopAt(1, "e1;b16;b99;t1;");
    }

    @Says("An ORDER that its call would refuse stops all: nothing is done.")
    void terms_anOrderThatIsBadStops() {
        phrases("0a");
        stopAt(0, "f4b;");
        stopAt(0, "f99b;");
        stopAt(0, "x1;");
        stopAt(0, "s99;");
    }

    @Says("An ORDER that its call would refuse stops all: nothing is done.")
    void terms_anOrderThatIsNoStops() {
        phrases("0a");
        stopAt(0, "f0a;");
        stopAt(1, "f0b;f0b;");
        stopAt(0, "s0;");
        stopAt(1, "lb;s0;");
    }

    @Says("An ORDER that its call would refuse stops all: nothing is done.")
    void terms_anOrderThatIsFullStops() {
        twelveOfOneMora();
        stopAt(0, "f3a;");
        stopAt(2, "x0;f3a;f3b;");
        due(read("x0;f3a;"), 2);
    }

    /** 74 of the shortest ORDERS, the last of which stops. */
    @Says("An ORDER that its call would refuse stops all: nothing is done.")
    void terms_theLastOfManyStops() {
        stopAt(73, "l;".repeat(73) + "x0;");
    }
}
