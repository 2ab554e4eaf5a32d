import java.math.BigInteger;

/** Terms, 2: the metre and its marks, made rows, weights, picks. */
final class EdgesOfTheMetre extends EdgeCase {

    /** Rows of n morae are as many as ways to make n of 1 and 2. */
    private void oneAndTwo(int metre) {
        phrases("0a", "0e");
        x.metre(metre);
    }

    @Says("THE METRE: T (1 .. 40; 12 at first) MORAE;")
    void terms_tIs12AtFirst() {
        due(x.told(7), 12);
        phrases("0hhhhhh");
        due(x.made(), 1);
    }

    @Says("THE METRE: T (1 .. 40; 12 at first) MORAE;")
    void terms_tIs1To40() {
        due(x.metre(0), BAD);
        due(x.metre(1), 12);
        due(x.metre(40), 1);
        due(x.metre(41), BAD);
    }

    @Says("MARKS of places 1 .. 39:")
    void terms_places1To39HaveMarks() {
        due(x.marks(0, 1), BAD);
        due(x.marks(40, 1), BAD);
        for (int place = 1; place <= 39; place++) {
            due(x.marks(place, 1 + place % 2), 0);
        }
        for (int place = 1; place <= 39; place++) {
            due(x.marks(place, 0), 1 + place % 2);
        }
    }

    @Says("0 free (at first), 1 a BREAK, 2 a BRIDGE.")
    void terms_mark1IsABreakMark2ABridgeMark0Free() {
        oneAndTwo(4);
        due(x.made(), 5);
        x.marks(2, 1);
        due(x.made(), 4);
        x.marks(2, 2);
        due(x.made(), 1);
        x.marks(2, 0);
        due(x.made(), 5);
    }

    // ---- made rows

    @Says("MADE ROWS: LAWFUL ROWS with T MORAE together,")
    void terms_fewerMoraeThanTAreNoMadeRow() {
        phrases("0ee");
        x.metre(5);
        due(x.made(), 0);
        x.metre(4);
        due(x.made(), 1);
    }

    @Says("MADE ROWS: LAWFUL ROWS with T MORAE together,")
    void terms_moreMoraeThanTAreNoMadeRow() {
        phrases("0ee");
        x.metre(3);
        due(x.made(), 0);
    }

    @Says("MADE ROWS: LAWFUL ROWS with T MORAE together,")
    void terms_moraeCountAndNotLetters() {
        phrases("0ah");
        x.metre(2);
        due(x.made(), 0);
        x.metre(3);
        due(x.made(), 1);
    }

    @Says("MADE ROWS: LAWFUL ROWS with T MORAE together,")
    void terms_aRowThatIsNotLawfulIsNotMade() {
        phrases("0a", "1e");
        x.metre(3);
        x.begins(1);
        due(x.made(), 2);
        x.ends(2);
        due(x.made(), 1);
        x.follows(0, 1);
        due(x.made(), 0);
    }

    @Says("such that each BREAK below T is a place where one PHRASE ends (so many MORAE are ahead),")
    void terms_aBreakAtPlace1() {
        oneAndTwo(5);
        x.marks(1, 1);
        due(x.made(), 5);
    }

    @Says("such that each BREAK below T is a place where one PHRASE ends (so many MORAE are ahead),")
    void terms_aBreakJustBelowT() {
        oneAndTwo(5);
        x.marks(4, 1);
        due(x.made(), 5);
        rowIs(4, 1, 1, 0);
    }

    @Says("such that each BREAK below T is a place where one PHRASE ends (so many MORAE are ahead),")
    void terms_aBreakAtTIsNothing() {
        phrases("0a", "0e");
        x.marks(5, 1);
        x.metre(5);
        due(x.made(), 8);
        x.metre(6);
        due(x.made(), 8);
        x.marks(5, 0);
        due(x.made(), 13);
    }

    @Says("such that each BREAK below T is a place where one PHRASE ends (so many MORAE are ahead),")
    void terms_aBreakAboveTIsNothing() {
        oneAndTwo(5);
        x.marks(6, 1);
        x.marks(39, 1);
        due(x.made(), 8);
    }

    @Says("such that each BREAK below T is a place where one PHRASE ends (so many MORAE are ahead),")
    void terms_aBreakAtPlace39Below40() {
        oneAndTwo(40);
        x.marks(39, 1);
        due(x.made(), 102334155);
    }

    @Says("such that each BREAK below T is a place where one PHRASE ends (so many MORAE are ahead),")
    void terms_twoBreaksSideBySide() {
        oneAndTwo(5);
        x.marks(2, 1);
        x.marks(3, 1);
        due(x.made(), 4);
    }

    @Says("such that each BREAK below T is a place where one PHRASE ends (so many MORAE are ahead),")
    void terms_breaksAtEveryPlace() {
        oneAndTwo(40);
        for (int place = 1; place <= 39; place++) {
            x.marks(place, 1);
        }
        due(x.made(), 1);
        due(x.row(0, NONE), 40);
        due(x.row(0, 39), 0);
    }

    @Says("such that each BREAK below T is a place where one PHRASE ends (so many MORAE are ahead),")
    void terms_aLongPhraseMayNotLieOverABreak() {
        phrases("0hhhhhh", "0a");
        x.metre(12);
        due(x.made(), 2);
        for (int place = 1; place <= 11; place++) {
            x.marks(place, 1);
            due(x.made(), 1);
            x.marks(place, 0);
        }
    }

    @Says("no BRIDGE below T is one.")
    void terms_aBridgeAtPlace1() {
        oneAndTwo(5);
        x.marks(1, 2);
        due(x.made(), 3);
    }

    @Says("no BRIDGE below T is one.")
    void terms_aBridgeJustBelowT() {
        oneAndTwo(5);
        x.marks(4, 2);
        due(x.made(), 3);
        rowIs(2, 1, 0, 1);
    }

    @Says("no BRIDGE below T is one.")
    void terms_aBridgeAtTIsNothing() {
        phrases("0a", "0e");
        x.marks(5, 2);
        x.metre(5);
        due(x.made(), 8);
        x.metre(6);
        due(x.made(), 5);
    }

    @Says("no BRIDGE below T is one.")
    void terms_aBridgeAboveTIsNothing() {
        oneAndTwo(5);
        x.marks(6, 2);
        x.marks(39, 2);
        due(x.made(), 8);
    }

    @Says("no BRIDGE below T is one.")
    void terms_aBridgeAtPlace39Below40() {
        oneAndTwo(40);
        x.marks(39, 2);
        due(x.made(), 63245986);
    }

    @Says("no BRIDGE below T is one.")
    void terms_bridgesAtEveryPlaceLeaveRowsOfOne() {
        phrases("0hhhhhh", "0a", "1hhhhhh");
        for (int place = 1; place <= 39; place++) {
            x.marks(place, 2);
        }
        due(x.made(), 2);
        rowIs(0, 0);
        rowIs(1, 2);
    }

    @Says({"such that each BREAK below T is a place where one PHRASE ends (so many MORAE are ahead),", "no BRIDGE below T is one."})
    void terms_marksAreNothingToTheLine() {
        phrases("0a", "0aa");
        line("aaaa");
        x.metre(4);
        x.marks(1, 2);
        x.marks(2, 1);
        x.marks(3, 2);
        due(x.made(), 1);
        due(x.cuts(), 5);
        bestIs(0, 0, 1, 1);
    }

    // ---- weights

    @Says("WEIGHT of a ROW by a MAKER: the product, over its PHRASES, of HABIT and 1.")
    void terms_withoutHabitsARowWeighs1() {
        phrases("0a");
        x.metre(40);
        due(x.weight(0, NONE), 1);
    }

    @Says("WEIGHT of a ROW by a MAKER: the product, over its PHRASES, of HABIT and 1.")
    void terms_aPhraseThatComesTwiceWeighsTwice() {
        phrases("0a");
        sing(0, "a", 2);
        x.metre(1);
        due(x.weight(0, NONE), 3);
        x.metre(2);
        due(x.weight(0, NONE), 9);
        x.metre(5);
        due(x.weight(0, NONE), 243);
    }

    @Says("WEIGHT of a ROW by a MAKER: the product, over its PHRASES, of HABIT and 1.")
    void terms_phrasesWithAndWithoutHabits() {
        phrases("0a", "1e");
        x.begins(1);
        x.follows(0, 2);
        sing(1, "a", 4);
        x.metre(3);
        due(x.weight(1, NONE), 5);
        due(x.weight(0, NONE), 1);
    }

    @Says("ALL WEIGHT: that of all MADE ROWS together.")
    void terms_allWeightOfNoRowIs0() {
        phrases("0e");
        sing(0, "e", 3);
        x.metre(3);
        due(x.weight(0, NONE), 0);
    }

    @Says("ALL WEIGHT: that of all MADE ROWS together.")
    void terms_allWeightIsASum() {
        phrases("0a", "1e");
        sing(0, "a", 1);
        sing(0, "e", 2);
        x.metre(3);
        due(x.weight(0, NONE), 8 + 6 + 6);
    }

    @Says("ALL WEIGHT: that of all MADE ROWS together.")
    void terms_allWeightWithoutHabitsIsHowManyRows() {
        twelveOfOneMora();
        x.metre(17);
        due(x.made(), 2218611106740436992L);
        due(x.weight(2, NONE), 2218611106740436992L);
    }

    // ---- picks

    @Says("PICK by a SEED (0 .. 999999):")
    void terms_aSeedIs0To999999() {
        phrases("0a");
        due(x.picks(0, -1, 0), BAD);
        due(x.picks(0, 0, 0), 0);
        due(x.picks(0, 999999, 0), 0);
        due(x.picks(0, 1000000, 0), BAD);
    }

    /** Where all is more than X can be, the pick is the row of the number X, and its figures of 4 are the row. */
    @Says({"X is SEED times 1103515245 and 12345, by 2147483648 what is left over;", "v is X by ALL WEIGHT what is left over;"})
    void terms_xWrapsAt2147483648() {
        fourOfA();
        x.metre(16);
        for (int seed : new int[] {0, 1, 2, 999999}) {
            BigInteger rest = BigInteger.valueOf(seed).multiply(BigInteger.valueOf(1103515245)).add(BigInteger.valueOf(12345))
                    .mod(BigInteger.valueOf(2147483648L));
            for (int i = 15; i >= 0; i--) {
                due(x.picks(0, seed, i), rest.mod(BigInteger.valueOf(4)).intValue());
                rest = rest.divide(BigInteger.valueOf(4));
            }
        }
    }

    @Says("v is X by ALL WEIGHT what is left over;")
    void terms_allWeightOf1LeavesTheOneRow() {
        phrases("0a");
        x.metre(2);
        pickIs(0, 0, 0, 0);
        pickIs(0, 999999, 0, 0);
    }

    @Says("of MADE ROWS in order the first one by which WEIGHTS, with those of all ahead, are together above v.")
    void terms_vOf0IsTheFirstRow() {
        phrases("0a", "1e");
        sing(0, "a", 1);
        x.metre(3);
        pickIs(0, seedFor(12, 0), 0, 0, 0);
    }

    @Says("of MADE ROWS in order the first one by which WEIGHTS, with those of all ahead, are together above v.")
    void terms_vOneBelowTheWeightAheadIsStillThatRow() {
        phrases("0a", "1e");
        sing(0, "a", 1);
        x.metre(3);
        pickIs(0, seedFor(12, 7), 0, 0, 0);
        pickIs(0, seedFor(12, 9), 0, 1);
    }

    @Says("of MADE ROWS in order the first one by which WEIGHTS, with those of all ahead, are together above v.")
    void terms_vAsMuchAsTheWeightAheadIsTheNextRow() {
        phrases("0a", "1e");
        sing(0, "a", 1);
        x.metre(3);
        pickIs(0, seedFor(12, 8), 0, 1);
        pickIs(0, seedFor(12, 10), 1, 0);
    }

    @Says("of MADE ROWS in order the first one by which WEIGHTS, with those of all ahead, are together above v.")
    void terms_vOneBelowAllWeightIsTheLastRow() {
        phrases("0a", "1e");
        sing(0, "a", 1);
        x.metre(3);
        pickIs(0, seedFor(12, 11), 1, 0);
    }

    /** Each row's share of v is its own weight, through all its phrases. */
    @Says("of MADE ROWS in order the first one by which WEIGHTS, with those of all ahead, are together above v.")
    void terms_everyVOfTwoPhrasesThatWeigh2And3() {
        phrases("0a", "0b");
        sing(0, "a", 1);
        sing(0, "b", 2);
        x.metre(2);
        int[] weights = {4, 6, 6, 9};
        int v = 0;
        for (int row = 0; row < 4; row++) {
            for (int k = 0; k < weights[row]; k++) {
                int seed = seedFor(25, v++);
                due(x.picks(0, seed, 0), row / 2);
                due(x.picks(0, seed, 1), row % 2);
            }
        }
    }
}
