/** Promises 14 to 19: lines made. */
final class EdgesOfLinesMade extends EdgeCase {

    /** Rows of 3 morae are a a a, a e, e a. */
    private void threeRows() {
        phrases("0a", "1e");
        x.metre(3);
    }

    /** The same, with WEIGHTS of MAKER 0: 8, 2, 2. */
    private void threeRowsOfWeights8And2And2() {
        threeRows();
        sing(0, "a", 1);
    }

    // ---- 14: metre

    @Says({"T becomes n:", "what it was."})
    void p14_becomes1TheLeast() {
        due(x.metre(1), 12);
        due(x.told(7), 1);
    }

    @Says({"T becomes n:", "what it was."})
    void p14_becomes40TheMost() {
        x.metre(1);
        due(x.metre(40), 1);
        due(x.told(7), 40);
    }

    @Says("BAD.")
    void p14_below1IsBad() {
        due(x.metre(0), BAD);
        due(x.metre(-1), BAD);
        due(x.metre(LOW), BAD);
        due(x.told(7), 12);
    }

    @Says("BAD.")
    void p14_above40IsBad() {
        due(x.metre(41), BAD);
        due(x.metre(HIGH), BAD);
        due(x.told(7), 12);
    }

    @Says("S.")
    void p14_itLeavesAState() {
        x.metre(20);
        x.metre(30);
        due(x.back(), 1);
        due(x.told(7), 20);
    }

    @Says("S.")
    void p14_itLeavesAStateIfItStays() {
        due(x.metre(12), 12);
        statesAre(1);
    }

    // ---- 15: marks

    @Says({"The MARK of a place (1 .. 39) becomes v:", "what it was."})
    void p15_places1And39AreTheLeastAndTheMost() {
        due(x.marks(1, 2), 0);
        due(x.marks(39, 1), 0);
        due(x.marks(1, 0), 2);
        due(x.marks(39, 0), 1);
    }

    @Says({"The MARK of a place (1 .. 39) becomes v:", "what it was."})
    void p15_marks0And2AreTheLeastAndTheMost() {
        due(x.marks(7, 2), 0);
        due(x.marks(7, 0), 2);
        due(x.marks(7, 0), 0);
    }

    @Says("The MARK of a place (1 .. 39) becomes v:")
    void p15_aPlaceAboveTHasOneToo() {
        x.metre(1);
        due(x.marks(1, 2), 0);
        due(x.marks(30, 1), 0);
        due(x.marks(30, 1), 1);
    }

    @Says("BAD.")
    void p15_aPlaceBelow1IsBad() {
        due(x.marks(0, 0), BAD);
        due(x.marks(-1, 0), BAD);
        due(x.marks(LOW, 0), BAD);
    }

    @Says("BAD.")
    void p15_aPlaceAbove39IsBad() {
        x.metre(40);
        due(x.marks(40, 0), BAD);
        due(x.marks(HIGH, 0), BAD);
    }

    @Says("BAD.")
    void p15_aMarkBelow0IsBad() {
        due(x.marks(1, -1), BAD);
        due(x.marks(1, LOW), BAD);
        due(x.marks(1, 0), 0);
    }

    @Says("BAD.")
    void p15_aMarkAbove2IsBad() {
        due(x.marks(1, 3), BAD);
        due(x.marks(1, HIGH), BAD);
        due(x.marks(1, 0), 0);
    }

    @Says("S.")
    void p15_itLeavesAState() {
        x.marks(39, 1);
        x.marks(39, 2);
        due(x.back(), 1);
        due(x.marks(39, 0), 1);
    }

    @Says("S.")
    void p15_itLeavesAStateIfItStays() {
        due(x.marks(5, 0), 0);
        statesAre(1);
    }

    // ---- 16: made

    @Says("MADE ROWS: how many.")
    void p16_withoutPhrasesThereAre0() {
        due(x.made(), 0);
        refusedAre(0, 0, 0, 0);
    }

    @Says("MADE ROWS: how many.")
    void p16_oneMoraOnePhrase() {
        phrases("0a", "0e");
        x.metre(1);
        due(x.made(), 1);
    }

    @Says("MADE ROWS: how many.")
    void p16_aPhraseLongerThanT() {
        phrases("0hhhhhh");
        x.metre(11);
        due(x.made(), 0);
        x.metre(12);
        due(x.made(), 1);
    }

    @Says("MADE ROWS: how many.")
    void p16_fortyMorae() {
        phrases("0a", "0e");
        x.metre(40);
        due(x.made(), 165580141);
    }

    @Says("MADE ROWS: how many.")
    void p16_aShorterMetreBehindALongerOne() {
        phrases("0a", "0e");
        x.metre(5);
        due(x.made(), 8);
        x.metre(2);
        due(x.made(), 2);
    }

    @Says("MUCH.")
    void p16_tooMuchIsMuch() {
        fourOfA();
        x.metre(31);
        due(x.made(), 4611686018427387904L);
        refusedAre(0, 0, 0, 0);
        x.metre(32);
        due(x.made(), MUCH);
        refusedAre(0, 0, 0, 1);
    }

    // ---- 17: row

    @Says({"The n-th MADE ROW (0 on):", "how many PHRASES (i NONE),", "the i-th;"})
    void p17_row0IsTheFirst() {
        threeRows();
        rowIs(0, 0, 0, 0);
    }

    @Says("The n-th MADE ROW (0 on):")
    void p17_theLastIsOneLessThanHowMany() {
        threeRows();
        rowIs(2, 1, 0);
    }

    @Says("NO: not so many ROWS.")
    void p17_asManyAsThereAreIsNo() {
        threeRows();
        due(x.row(3, 0), NO);
        due(x.row(MOST, 0), NO);
        due(x.row(3, NONE), NO);
        refusedAre(0, 3, 0, 0);
    }

    @Says("NO: not so many ROWS.")
    void p17_noMadeRowIsNo() {
        due(x.row(0, 0), NO);
        due(x.row(0, NONE), NO);
    }

    /** What is above an int is not cut off. */
    @Says("The n-th MADE ROW (0 on):")
    void p17_nAboveAllInts() {
        fourOfA();
        x.metre(31);
        due(x.row(4294967296L, 14), 1);
        due(x.row(4294967296L, 30), 0);
        due(x.row(4611686018427387903L, 0), 3);
        due(x.row(4611686018427387903L, 30), 3);
        due(x.row(4611686018427387904L, 0), NO);
    }

    @Says("the i-th;")
    void p17_theFirstIs0TheLastOneLessThanHowMany() {
        phrases("0a", "1b");
        x.metre(40);
        due(x.row(1, 0), 0);
        due(x.row(1, 38), 0);
        due(x.row(1, 39), 1);
    }

    @Says({"The n-th MADE ROW (0 on):", "the i-th;"})
    void p17_phrase11OfTwelve() {
        twelveOfOneMora();
        x.metre(2);
        rowIs(11, 0, 11);
        rowIs(132, 11, 0);
        rowIs(143, 11, 11);
    }

    @Says("how many PHRASES (i NONE),")
    void p17_aShorterMetreBehindALongerOne() {
        phrases("0a");
        x.metre(4);
        rowIs(0, 0, 0, 0, 0);
        x.metre(2);
        rowIs(0, 0, 0);
    }

    @Says("-10: not so many.")
    void p17_behindTheLastIsMinus10() {
        threeRows();
        due(x.row(0, 3), NOT_SO_MANY);
        due(x.row(1, 2), NOT_SO_MANY);
        due(x.row(1, HIGH), NOT_SO_MANY);
    }

    @Says("-10: not so many.")
    void p17_behindTheLastOf40IsMinus10() {
        phrases("0a");
        x.metre(40);
        due(x.row(0, 40), NOT_SO_MANY);
    }

    @Says("-10: not so many.")
    void p17_minus10IsNotRefused() {
        threeRows();
        x.row(0, 3);
        refusedAre(0, 0, 0, 0);
    }

    @Says("BAD: n below 0, i below -1;")
    void p17_nBelow0IsBad() {
        threeRows();
        due(x.row(-1, 0), BAD);
        due(x.row(Long.MIN_VALUE, 0), BAD);
        due(x.row(-4294967296L, 0), BAD);
    }

    @Says("BAD: n below 0, i below -1;")
    void p17_iBelowMinus1IsBad() {
        threeRows();
        due(x.row(0, -2), BAD);
        due(x.row(0, -10), BAD);
        due(x.row(0, LOW), BAD);
    }

    @Says("MUCH;")
    void p17_tooMuchIsMuch() {
        fourOfA();
        x.metre(32);
        due(x.row(0, 0), MUCH);
        due(x.row(0, NONE), MUCH);
        refusedAre(0, 0, 0, 2);
    }

    @Says({"BAD: n below 0, i below -1;", "MUCH;"})
    void p17_badIsAheadOfMuch() {
        fourOfA();
        x.metre(32);
        due(x.row(-1, 0), BAD);
        due(x.row(0, -2), BAD);
        refusedAre(2, 0, 0, 0);
    }

    /** From place 1 on it is TOO MUCH, from the beginning there is none. */
    @Says({"MUCH;", "NO: not so many ROWS."})
    void p17_muchIsAheadOfNo() {
        fourOfA();
        x.metre(33);
        x.begins(0);
        due(x.row(0, 0), MUCH);
        refusedAre(0, 0, 0, 1);
    }

    @Says({"BAD: n below 0, i below -1;", "NO: not so many ROWS."})
    void p17_badIsAheadOfNo() {
        due(x.row(9, -2), BAD);
        refusedAre(1, 0, 0, 0);
    }

    @Says({"NO: not so many ROWS.", "-10: not so many."})
    void p17_noGoesAheadOfNotSoMany() {
        due(x.row(0, 99), NO);
    }

    // ---- 18: weight

    @Says("ALL WEIGHT by a MAKER (i NONE),")
    void p18_ofAll() {
        threeRowsOfWeights8And2And2();
        due(x.weight(0, NONE), 12);
        due(x.weight(1, NONE), 3);
        due(x.weight(2, NONE), 3);
    }

    @Says("that of those that begin with PHRASE i.")
    void p18_ofTheFirstAndOfTheLastPhrase() {
        threeRowsOfWeights8And2And2();
        due(x.weight(0, 0), 10);
        due(x.weight(0, 1), 2);
    }

    @Says("that of those that begin with PHRASE i.")
    void p18_aPhraseThatBeginsNoneHas0() {
        threeRowsOfWeights8And2And2();
        x.begins(2);
        due(x.weight(0, 0), 0);
        due(x.weight(0, 1), 2);
        refusedAre(0, 0, 0, 0);
    }

    @Says("that of those that begin with PHRASE i.")
    void p18_aPhraseLongerThanTHas0() {
        phrases("0e", "0a");
        x.metre(1);
        due(x.weight(0, 0), 0);
        due(x.weight(0, 1), 1);
    }

    @Says("that of those that begin with PHRASE i.")
    void p18_theTwelfthPhrase() {
        twelveOfOneMora();
        x.metre(2);
        due(x.weight(2, 11), 12);
    }

    @Says("ALL WEIGHT by a MAKER (i NONE),")
    void p18_noMadeRowHas0() {
        due(x.weight(0, NONE), 0);
        phrases("0e");
        x.metre(1);
        due(x.weight(0, NONE), 0);
        refusedAre(0, 0, 0, 0);
    }

    @Says("BAD;")
    void p18_aMakerBelow0IsBad() {
        phrases("0a");
        due(x.weight(-1, NONE), BAD);
        due(x.weight(LOW, 0), BAD);
    }

    @Says("BAD;")
    void p18_aMakerAbove2IsBad() {
        phrases("0a");
        due(x.weight(3, NONE), BAD);
        due(x.weight(HIGH, 0), BAD);
    }

    @Says("BAD;")
    void p18_aPhraseBelowNoneIsBad() {
        phrases("0a");
        due(x.weight(0, -2), BAD);
        due(x.weight(0, LOW), BAD);
    }

    @Says("BAD;")
    void p18_behindTheLastPhraseIsBad() {
        phrases("0a", "0b");
        due(x.weight(0, 2), BAD);
        due(x.weight(0, HIGH), BAD);
    }

    @Says("MUCH.")
    void p18_tooMuchIsMuch() {
        fourOfA();
        x.metre(32);
        due(x.weight(0, NONE), MUCH);
        refusedAre(0, 0, 0, 1);
    }

    @Says("MUCH.")
    void p18_allThatIsTooMuchIsMuchOfOnePhraseToo() {
        phrases("0a", "1a", "2a", "3a", "0e");
        x.metre(32);
        due(x.weight(0, 4), MUCH);
        x.metre(33);
        x.begins(1);
        due(x.weight(0, 1), MUCH);
    }

    @Says({"BAD;", "MUCH."})
    void p18_badIsAheadOfMuch() {
        fourOfA();
        x.metre(32);
        due(x.weight(0, 4), BAD);
        due(x.weight(3, 0), BAD);
        refusedAre(2, 0, 0, 0);
    }

    // ---- 19: picks

    @Says({"PICK by a MAKER, a SEED:", "how many PHRASES (i NONE),", "the i-th;"})
    void p19_seeds0And999999AreTheLeastAndTheMost() {
        fourOfA();
        x.metre(8);
        // X is 12345 and 1751684876; what is left over by 65536, in figures of 4, is the row
        pickIs(0, 0, 0, 3, 0, 0, 0, 3, 2, 1);
        pickIs(0, 999999, 2, 1, 1, 3, 0, 0, 3, 0);
    }

    @Says("BAD: i below -1, too;")
    void p19_aSeedBelow0IsBad() {
        threeRows();
        due(x.picks(0, -1, 0), BAD);
        due(x.picks(0, LOW, 0), BAD);
    }

    @Says("BAD: i below -1, too;")
    void p19_aSeedAbove999999IsBad() {
        threeRows();
        due(x.picks(0, 1000000, 0), BAD);
        due(x.picks(0, HIGH, 0), BAD);
    }

    @Says("BAD: i below -1, too;")
    void p19_aMakerBelow0IsBad() {
        threeRows();
        due(x.picks(-1, 0, 0), BAD);
        due(x.picks(LOW, 0, 0), BAD);
    }

    @Says("BAD: i below -1, too;")
    void p19_aMakerAbove2IsBad() {
        threeRows();
        due(x.picks(3, 0, 0), BAD);
        due(x.picks(HIGH, 0, 0), BAD);
    }

    @Says("BAD: i below -1, too;")
    void p19_iBelowMinus1IsBad() {
        threeRows();
        due(x.picks(0, 0, -2), BAD);
        due(x.picks(0, 0, -10), BAD);
        due(x.picks(0, 0, LOW), BAD);
    }

    @Says("the i-th;")
    void p19_theFirstIs0TheLastOneLessThanHowMany() {
        phrases("0a");
        x.metre(40);
        due(x.picks(0, 5, 0), 0);
        due(x.picks(0, 5, 39), 0);
    }

    @Says("-10: not so many.")
    void p19_behindTheLastIsMinus10() {
        phrases("0a");
        x.metre(40);
        due(x.picks(0, 5, 40), NOT_SO_MANY);
        due(x.picks(0, 5, HIGH), NOT_SO_MANY);
        refusedAre(0, 0, 0, 0);
    }

    @Says("how many PHRASES (i NONE),")
    void p19_aShorterMetreBehindALongerOne() {
        phrases("0a");
        x.metre(4);
        pickIs(0, 7, 0, 0, 0, 0);
        x.metre(2);
        pickIs(0, 7, 0, 0);
    }

    @Says("PICK by a MAKER, a SEED:")
    void p19_eachMakerByHisOwnWeights() {
        threeRowsOfWeights8And2And2();
        sing(2, "e", 1);
        // of 12: 7 is within the first 8; of 1, 2, 2: 4 is the last
        int seed = seedFor(60, 19);
        pickIs(0, seed, 0, 0, 0);
        pickIs(1, seedFor(3, 1), 0, 1);
        pickIs(2, seed, 1, 0);
    }

    @Says("MUCH (of WEIGHTS);")
    void p19_tooMuchOfWeightsIsMuch() {
        phrases("0a");
        sing(0, "a".repeat(40), 1);
        x.metre(12);
        due(x.picks(0, 0, 0), MUCH);
        due(x.picks(0, 0, NONE), MUCH);
        refusedAre(0, 0, 0, 2);
        due(x.picks(1, 0, 0), 0);
        x.metre(11);
        due(x.picks(0, 0, 0), 0);
    }

    @Says("NO: there is no MADE ROW.")
    void p19_noMadeRowIsNo() {
        due(x.picks(0, 0, 0), NO);
        due(x.picks(0, 0, NONE), NO);
        due(x.picks(0, 0, 99), NO);
        refusedAre(0, 3, 0, 0);
    }

    @Says({"BAD: i below -1, too;", "MUCH (of WEIGHTS);"})
    void p19_badIsAheadOfMuch() {
        fourOfA();
        x.metre(32);
        due(x.picks(0, -1, 0), BAD);
        due(x.picks(3, 0, 0), BAD);
        due(x.picks(0, 0, -2), BAD);
        refusedAre(3, 0, 0, 0);
    }

    @Says({"MUCH (of WEIGHTS);", "NO: there is no MADE ROW."})
    void p19_muchIsAheadOfNo() {
        fourOfA();
        x.metre(33);
        x.begins(0);
        due(x.picks(0, 0, 0), MUCH);
        refusedAre(0, 0, 0, 1);
    }

    @Says({"BAD: i below -1, too;", "NO: there is no MADE ROW."})
    void p19_badIsAheadOfNo() {
        due(x.picks(3, 0, 0), BAD);
        due(x.picks(0, 1000000, 0), BAD);
        due(x.picks(0, 0, -2), BAD);
        refusedAre(3, 0, 0, 0);
    }
}
