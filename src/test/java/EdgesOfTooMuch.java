/** Terms, 2: ON of a place and a slot; what is TOO MUCH. */
final class EdgesOfTooMuch extends EdgeCase {
    private static final long FOUR_TO_31 = 4611686018427387904L;

    /**
     * Rows of 31 morae: so many of the four of slot 0, one of the six of slots 1 and 3, the rest of slot 2;
     * or all of slot 2. That is 6 (1 + 4 + .. + 4 to the 30th) + 1, and that is the most.
     */
    private void asManyRowsAsTheMost() {
        phrases("0a", "0b", "0c", "0d", "1a", "1b", "1c", "3a", "3b", "3c", "2a");
        x.ends(14);
        x.follows(0, 11);
        x.follows(1, 4);
        x.follows(3, 4);
        x.follows(2, 4);
        x.metre(31);
    }

    /** MAKER 0: a weighs 8, b 7, c 1. Rows of 21 morae are a a .. b c c ..: 8 to the 21st, less 1, is the most. */
    private void weightsOf8And7And1() {
        phrases("0a", "1b", "2c");
        sing(0, "aaaaaaa", 1);
        sing(0, "bbbbbb", 1);
        x.begins(3);
        x.ends(6);
        x.follows(0, 3);
        x.follows(1, 4);
        x.follows(2, 4);
        x.metre(21);
    }

    // ---- the most itself

    @Says("is above 9223372036854775807, it is TOO MUCH.")
    void terms_asManyRowsAsTheMostAreNotTooMuch() {
        asManyRowsAsTheMost();
        due(x.made(), MOST);
        refusedAre(0, 0, 0, 0);
        due(x.row(0, NONE), 31);
        due(x.row(0, 29), 0);
        due(x.row(0, 30), 4);
        due(x.row(MOST - 1, 0), 10);
        due(x.row(MOST - 1, 30), 10);
        due(x.row(MOST - 2, 0), 9);
        due(x.row(MOST, 0), NO);
    }

    @Says("is above 9223372036854775807, it is TOO MUCH.")
    void terms_oneRowAboveTheMostIsTooMuch() {
        fourOfA();
        x.metre(32);
        x.begins(1);
        due(x.made(), FOUR_TO_31);
        x.begins(3);
        due(x.made(), MUCH);
    }

    @Says("is above 9223372036854775807, it is TOO MUCH.")
    void terms_aWeightOfTheMostIsNotTooMuch() {
        weightsOf8And7And1();
        due(x.weight(0, NONE), MOST);
        due(x.weight(0, 0), MOST - 7);
        due(x.weight(0, 1), 7);
        due(x.picks(0, 0, NONE), 21);
    }

    @Says("is above 9223372036854775807, it is TOO MUCH.")
    void terms_aWeightOneAboveTheMostIsTooMuch() {
        weightsOf8And7And1();
        x.begins(1);
        x.ends(1);
        x.follows(0, 1);
        due(x.weight(0, NONE), MUCH);
        due(x.picks(0, 0, NONE), MUCH);
        x.metre(20);
        due(x.weight(0, NONE), 1152921504606846976L);
    }

    // ---- what wraps around

    /** 2 to the 64th would be 0. */
    @Says("is above 9223372036854775807, it is TOO MUCH.")
    void terms_whatWouldWrapAroundTo0IsTooMuch() {
        fourOfA();
        x.metre(32);
        due(x.made(), MUCH);
        line("a".repeat(32));
        due(x.cuts(), MUCH);
    }

    /** 12 to the 18th would be above 0 again. */
    @Says("is above 9223372036854775807, it is TOO MUCH.")
    void terms_whatWouldWrapAroundToMoreThan0IsTooMuch() {
        twelveOfOneMora();
        x.metre(18);
        due(x.made(), MUCH);
        due(x.weight(1, NONE), MUCH);
    }

    /** Some of these would be above 0 again, some below. */
    @Says("is above 9223372036854775807, it is TOO MUCH.")
    void terms_aProductThatWouldWrapAroundIsTooMuch() {
        phrases("0a");
        sing(0, "a".repeat(40), 1);
        x.metre(11);
        due(x.weight(0, NONE), 550329031716248441L);
        for (int metre = 12; metre <= 40; metre++) {
            x.metre(metre);
            due(x.weight(0, NONE), MUCH);
        }
    }

    // ---- any p from 1 to the end

    @Says("If that of any p from 1 to the end and any s,")
    void terms_place1CountsThoughNoRowBegins() {
        fourOfA();
        x.begins(0);
        x.metre(32);
        due(x.made(), 0);
        x.metre(33);
        due(x.made(), MUCH);
    }

    /** The one that begins is too long or too short, and nothing comes behind it. */
    @Says("If that of any p from 1 to the end and any s,")
    void terms_placesThatNoRowGetsToCount() {
        phrases("0hhhhhh", "1a", "1b", "1c", "2a", "2b", "2c", "3a", "3b", "3c");
        x.begins(1);
        x.follows(0, 0);
        for (int s = 1; s < 4; s++) {
            x.follows(s, 14);
        }
        // behind slots 1 to 3: from place 1 on 9 to the 19th, then 9 to the 20th
        x.metre(20);
        due(x.made(), 0);
        x.metre(21);
        due(x.made(), MUCH);
    }

    @Says("If that of any p from 1 to the end and any s,")
    void terms_place1OfTheLineCountsThoughNoCutBegins() {
        fourOfA();
        x.begins(0);
        line("a".repeat(32));
        due(x.cuts(), 0);
        x.letter(1);
        due(x.cuts(), MUCH);
    }

    /** b, at the beginning of the line, is no phrase. */
    @Says("If that of any p from 1 to the end and any s,")
    void terms_placesOfTheLineThatNoCutGetsToCount() {
        fourOfA();
        line("b" + "a".repeat(31));
        due(x.cuts(), 0);
        line("b" + "a".repeat(32));
        due(x.cuts(), MUCH);
    }

    /** From place 0 on, behind a slot, there would be 4 to the 32nd; only BEGINS counts there. */
    @Says("If that of any p from 1 to the end and any s,")
    void terms_place0BehindASlotCountsNot() {
        fourOfA();
        x.metre(32);
        x.begins(1);
        due(x.made(), FOUR_TO_31);
        line("a".repeat(32));
        due(x.cuts(), FOUR_TO_31);
    }

    // ---- any s

    /** Behind slot 1, of which there is no phrase, twice as many may come as behind the others. */
    @Says("If that of any p from 1 to the end and any s,")
    void terms_aSlotWithoutPhrasesCounts() {
        phrases("0a", "0b", "0c", "0d", "2a", "2b", "2c", "2d");
        for (int s = 0; s < 4; s++) {
            x.follows(s, 1);
        }
        x.begins(1);
        x.metre(31);
        due(x.made(), FOUR_TO_31);
        x.metre(32);
        x.begins(0);
        due(x.made(), 0);
        x.follows(1, 5);
        due(x.made(), MUCH);
        x.follows(1, 4);
        due(x.made(), 0);
    }

    /** Rows that begin with slot 1 weigh more than the most, but nothing lets slot 1 in. */
    @Says({"the first one in FOLLOWS of s,", "each other one in that of the one ahead,"})
    void terms_aSlotThatNothingLetsInCountsNot() {
        phrases("0a", "0b", "0c", "0d", "1a");
        x.begins(2);
        x.follows(1, 2);
        sing(0, "a".repeat(40), 1);
        for (int s = 0; s < 4; s++) {
            x.follows(s, 1);
        }
        x.begins(1);
        x.metre(31);
        due(x.weight(0, NONE), FOUR_TO_31);
        due(x.weight(0, 4), 0);
        x.follows(3, 2);
        due(x.weight(0, NONE), MUCH);
        x.follows(3, 1);
        x.begins(3);
        due(x.weight(0, NONE), MUCH);
    }

    @Says("the first one in FOLLOWS of s,")
    void terms_followsOfEachSlotCountsForItself() {
        fourOfA();
        x.begins(0);
        x.metre(33);
        for (int s = 0; s < 4; s++) {
            x.follows(s, 1);
        }
        due(x.made(), 0);
        for (int s = 0; s < 4; s++) {
            x.follows(s, 15);
            due(x.made(), s < 3 ? 0 : MUCH);
        }
    }

    // ---- all from the beginning

    @Says("or of all from the beginning,")
    void terms_allFromTheBeginningCountsThoughNoPlaceIsTooMuch() {
        fourOfA();
        x.metre(32);
        x.begins(1);
        due(x.made(), FOUR_TO_31);
        x.begins(15);
        due(x.made(), MUCH);
    }

    @Says("or of all from the beginning,")
    void terms_allCutsFromTheBeginningCountThoughNoPlaceIsTooMuch() {
        fourOfA();
        line("a".repeat(32));
        x.begins(1);
        due(x.cuts(), FOUR_TO_31);
        x.begins(15);
        due(x.cuts(), MUCH);
    }

    // ---- ON itself

    @Says("ON of a place p and a SLOT s: of CUTS p is how many LETTERS are ahead, of MADE ROWS how many MORAE;")
    void terms_lettersOfCutsMoraeOfMadeRows() {
        for (int s = 0; s < 4; s++) {
            x.phrase(s, 5);
        }
        line("e".repeat(32));
        x.metre(40);
        due(x.made(), 1099511627776L);
        due(x.cuts(), MUCH);
    }

    @Says("how many rows of PHRASES (or their WEIGHTS together) lead from p to the end,")
    void terms_weightsMayBeTooMuchWhereRowsAreNot() {
        phrases("0a");
        sing(1, "a".repeat(40), 1);
        x.metre(12);
        due(x.weight(1, NONE), MUCH);
        due(x.made(), 1);
        rowIs(0, 0, 0, 0, 0, 0, 0, 0, 0, 0, 0, 0, 0);
        due(x.weight(0, NONE), 1);
        due(x.weight(2, NONE), 1);
    }

    @Says("how many rows of PHRASES (or their WEIGHTS together) lead from p to the end,")
    void terms_cutsMayBeTooMuchWhereMadeRowsAreNot() {
        fourOfA();
        line("a".repeat(40));
        x.metre(1);
        due(x.cuts(), MUCH);
        due(x.made(), 4);
        x.wipes();
        x.metre(40);
        due(x.cuts(), 0);
        due(x.made(), MUCH);
    }

    @Says({"the last one in ENDS,", "at the end itself 1, if s is in ENDS, else 0;"})
    void terms_whereNoneEndsNothingIsTooMuch() {
        fourOfA();
        line("a".repeat(40));
        x.metre(40);
        x.ends(0);
        due(x.made(), 0);
        due(x.cuts(), 0);
        refusedAre(0, 0, 0, 0);
    }

    @Says({"the last one in ENDS,", "at the end itself 1, if s is in ENDS, else 0;"})
    void terms_whereOneSlotEndsTheLastIsOfIt() {
        fourOfA();
        x.metre(32);
        x.ends(8);
        due(x.made(), FOUR_TO_31);
        due(x.row(0, 31), 3);
        x.ends(9);
        due(x.made(), MUCH);
    }

    /** 12 to the 20th of two morae each, but none of them ends at 39. */
    @Says("as CUTS, as MADE ROWS do;")
    void terms_rowsOnThatLieOverABreakCountNot() {
        for (int s = 0; s < 3; s++) {
            for (int c = 5; c <= 8; c++) {
                x.phrase(s, c);
            }
        }
        x.metre(40);
        due(x.made(), MUCH);
        x.marks(39, 1);
        due(x.made(), 0);
        x.marks(39, 0);
        x.marks(1, 1);
        due(x.made(), MUCH);
    }

    @Says("where p is a BRIDGE below T, 0.")
    void terms_aPlaceThatIsABridgeIsNotTooMuch() {
        fourOfA();
        x.begins(0);
        x.metre(33);
        due(x.made(), MUCH);
        x.marks(1, 1);
        due(x.made(), MUCH);
        x.marks(1, 2);
        due(x.made(), 0);
    }

    @Says("where p is a BRIDGE below T, 0.")
    void terms_aPlaceBehindABridgeCounts() {
        fourOfA();
        x.begins(0);
        x.marks(1, 2);
        x.metre(33);
        due(x.made(), 0);
        x.metre(34);
        due(x.made(), MUCH);
    }

    @Says("where p is a BRIDGE below T, 0.")
    void terms_aBridgeAtTIsNo0() {
        fourOfA();
        x.begins(0);
        x.marks(33, 2);
        x.metre(33);
        due(x.made(), MUCH);
        x.metre(34);
        due(x.made(), 0);
    }

    @Says("where p is a BRIDGE below T, 0.")
    void terms_aBridgeIsNo0OfCuts() {
        fourOfA();
        x.begins(0);
        x.marks(1, 2);
        x.metre(40);
        line("a".repeat(33));
        due(x.cuts(), MUCH);
    }
}
