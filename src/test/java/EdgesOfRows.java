/** Terms, 1: letters, phrases, rules, rows, the line, makers; what a maker fixes. */
final class EdgesOfRows extends EdgeCase {

    @Says("An object is used for at most 512 calls after it has been made; what later calls answer is free.")
    void terms_the512thCallIsStillAsPromised() {
        x.phrase(0, 1);
        for (int call = 2; call <= 511; call++) {
            x.metre(1 + call % 40);
        }
        due(x.told(7), 32);
    }

    @Says("1 of a to d,")
    void terms_aToDAreOneMora() {
        for (int c = 1; c <= 4; c++) {
            x.phrase(0, c);
            due(x.of(c - 1, 2), 1);
        }
    }

    @Says("2 of e to h.")
    void terms_eToHAreTwoMorae() {
        for (int c = 5; c <= 8; c++) {
            x.phrase(0, c);
            due(x.of(c - 5, 2), 2);
        }
    }

    // ---- phrases

    @Says("PHRASES 0 .. 11, as they come:")
    void terms_phrasesAreNumberedFrom0To11AsTheyCome() {
        for (int i = 0; i <= 11; i++) {
            due(x.phrase(i % 4, 88 - 11 * (i / 4)), i);
        }
        due(x.of(0, 3), 88);
        due(x.of(11, 3), 66);
    }

    @Says("a SLOT (0 .. 3),")
    void terms_aPhraseHasASlotOf0To3() {
        for (int s = -1; s <= 4; s++) {
            due(x.phrase(s, 1), s < 0 || s > 3 ? BAD : s);
        }
    }

    @Says("1 to 6 LETTERS;")
    void terms_aPhraseHas1To6Letters() {
        due(x.phrase(0, 0), BAD);
        due(x.phrase(0, 1), 0);
        due(x.phrase(0, 111111), 1);
        due(x.phrase(0, 1111111), BAD);
    }

    @Says("no two alike in both.")
    void terms_twoMayBeAlikeInLettersAlone() {
        phrases("0a");
        due(x.phrase(1, 1), 1);
    }

    @Says("no two alike in both.")
    void terms_twoMayBeAlikeInSlotAlone() {
        phrases("0a");
        due(x.phrase(0, 11), 1);
    }

    @Says("no two alike in both.")
    void terms_noTwoAreAlikeInBoth() {
        phrases("0b", "1a", "0a");
        due(x.phrase(1, 1), NO);
        due(x.phrase(0, 1), NO);
        due(x.phrase(0, 2), NO);
    }

    // ---- rules

    @Says("BEGINS, ENDS: sets of SLOTS (bits; 15 at first);")
    void terms_eachBitOfBeginsIsASlot() {
        fourOfA();
        line("a");
        x.metre(1);
        for (int s = 0; s < 4; s++) {
            x.begins(1 << s);
            rowIs(0, s);
            due(x.made(), 1);
            due(x.cuts(), 1);
            bestIs(0, 0, s);
        }
    }

    @Says("BEGINS, ENDS: sets of SLOTS (bits; 15 at first);")
    void terms_eachBitOfEndsIsASlot() {
        fourOfA();
        line("a");
        x.metre(1);
        for (int s = 0; s < 4; s++) {
            x.ends(1 << s);
            rowIs(0, s);
            due(x.made(), 1);
            due(x.cuts(), 1);
            bestIs(0, 0, s);
        }
    }

    @Says("BEGINS, ENDS: sets of SLOTS (bits; 15 at first);")
    void terms_allSlotsBeginAndEndAtFirst() {
        due(x.told(8), 15);
        due(x.told(9), 15);
        fourOfA();
        x.metre(1);
        due(x.made(), 4);
    }

    @Says("BEGINS, ENDS: sets of SLOTS (bits; 15 at first);")
    void terms_anEmptyBeginsLetsNoneBegin() {
        fourOfA();
        line("a");
        x.begins(0);
        due(x.made(), 0);
        due(x.cuts(), 0);
    }

    @Says("BEGINS, ENDS: sets of SLOTS (bits; 15 at first);")
    void terms_anEmptyEndsLetsNoneEnd() {
        fourOfA();
        line("a");
        x.ends(0);
        due(x.made(), 0);
        due(x.cuts(), 0);
    }

    @Says("FOLLOWS of a SLOT: the SLOTS that may come behind it (15 at first).")
    void terms_eachBitOfFollowsIsASlot() {
        fourOfA();
        line("aa");
        x.metre(2);
        for (int ahead = 0; ahead < 4; ahead++) {
            x.begins(1 << ahead);
            for (int s = 0; s < 4; s++) {
                x.follows(ahead, 1 << s);
                rowIs(0, ahead, s);
                due(x.made(), 1);
                due(x.cuts(), 1);
                bestIs(0, 0, ahead, s);
            }
        }
    }

    @Says("FOLLOWS of a SLOT: the SLOTS that may come behind it (15 at first).")
    void terms_allSlotsFollowAllAtFirst() {
        for (int s = 0; s < 4; s++) {
            due(x.told(10 + s), 15);
        }
        fourOfA();
        x.metre(2);
        due(x.made(), 16);
    }

    // ---- rows

    @Says("A ROW: PHRASES, one or more, one behind the other")
    void terms_noPhraseIsNoRow() {
        phrases("0a");
        due(x.cuts(), 0);
        due(x.best(0, NONE), NO);
    }

    @Says("A ROW: PHRASES, one or more, one behind the other")
    void terms_onePhraseIsARow() {
        phrases("0a");
        line("a");
        due(x.cuts(), 1);
        bestIs(0, 0, 0);
    }

    @Says("(the same one perhaps more than once);")
    void terms_theSamePhraseMayComeMoreThanOnce() {
        phrases("0a");
        line("aaa");
        due(x.cuts(), 1);
        bestIs(0, 0, 0, 0, 0);
    }

    @Says("it is LAWFUL, if the SLOT of its first one is in BEGINS,")
    void terms_theFirstMustBeInBegins() {
        phrases("0a", "1b");
        line("ab");
        x.begins(14);
        due(x.cuts(), 0);
        due(x.best(0, NONE), NO);
    }

    @Says("it is LAWFUL, if the SLOT of its first one is in BEGINS,")
    void terms_theFirstAloneMustBeInBegins() {
        phrases("0a", "1b");
        line("ab");
        x.begins(1);
        due(x.cuts(), 1);
        bestIs(0, 0, 0, 1);
    }

    @Says("that of its last one in ENDS,")
    void terms_theLastMustBeInEnds() {
        phrases("0a", "1b");
        line("ab");
        x.ends(13);
        due(x.cuts(), 0);
        due(x.best(0, NONE), NO);
    }

    @Says("that of its last one in ENDS,")
    void terms_theLastAloneMustBeInEnds() {
        phrases("0a", "1b");
        line("ab");
        x.ends(2);
        due(x.cuts(), 1);
        bestIs(0, 0, 0, 1);
    }

    @Says("that of each other one in FOLLOWS of the one ahead of it.")
    void terms_theSecondMustBeInFollowsOfTheFirst() {
        phrases("0a", "1b", "2c");
        line("abc");
        x.follows(0, 13);
        due(x.cuts(), 0);
        due(x.best(0, NONE), NO);
        x.follows(0, 2);
        due(x.cuts(), 1);
        bestIs(0, 0, 0, 1, 2);
    }

    @Says("that of each other one in FOLLOWS of the one ahead of it.")
    void terms_theLastMustBeInFollowsOfTheOneAheadToo() {
        phrases("0a", "1b", "2c");
        line("abc");
        x.follows(1, 11);
        due(x.cuts(), 0);
        due(x.best(0, NONE), NO);
        x.follows(1, 4);
        due(x.cuts(), 1);
        bestIs(0, 0, 0, 1, 2);
    }

    @Says("that of each other one in FOLLOWS of the one ahead of it.")
    void terms_theFirstNeedsToBeInNoFollows() {
        phrases("0a", "1b");
        line("ab");
        for (int s = 0; s < 4; s++) {
            x.follows(s, 14);
        }
        due(x.cuts(), 1);
        bestIs(0, 0, 0, 1);
    }

    @Says("that of each other one in FOLLOWS of the one ahead of it.")
    void terms_behindTheLastNothingMustFollow() {
        phrases("0a", "1b");
        line("ab");
        x.follows(1, 0);
        due(x.cuts(), 1);
        bestIs(0, 0, 0, 1);
    }

    @Says("that of each other one in FOLLOWS of the one ahead of it.")
    void terms_aRowOfOneNeedsNoFollows() {
        phrases("0a");
        line("a");
        for (int s = 0; s < 4; s++) {
            x.follows(s, 0);
        }
        due(x.cuts(), 1);
        bestIs(0, 0, 0);
    }

    @Says("Of two ROWS that one is ahead that has the lesser number where they first differ.")
    void terms_theLesserNumberIsAheadThoughItsRowIsLonger() {
        phrases("0a", "0e");
        x.metre(3);
        rowIs(0, 0, 0, 0);
        rowIs(1, 0, 1);
        rowIs(2, 1, 0);
    }

    @Says("Of two ROWS that one is ahead that has the lesser number where they first differ.")
    void terms_aLesserNumberBehindDoesNotCount() {
        phrases("0e", "0a");
        x.metre(3);
        rowIs(0, 0, 1);
        rowIs(1, 1, 0);
        rowIs(2, 1, 1, 1);
    }

    // ---- the line

    @Says("THE LINE: 0 to 40 LETTERS (none at first).")
    void terms_theLineHasNoneAtFirst() {
        due(x.told(6), 0);
        due(x.wipes(), 0);
    }

    @Says("THE LINE: 0 to 40 LETTERS (none at first).")
    void terms_theLineHas40AtMost() {
        line("a".repeat(40));
        due(x.told(6), 40);
        due(x.letter(1), FULL);
        due(x.told(6), 40);
    }

    @Says("CUTS: LAWFUL ROWS whose LETTERS, one behind the other, are THE LINE.")
    void terms_aLetterThatIsLeftOverIsNoCut() {
        phrases("0ab");
        line("aba");
        due(x.cuts(), 0);
        due(x.best(0, NONE), NO);
    }

    /** The second letter was there before, and is wiped. */
    @Says("CUTS: LAWFUL ROWS whose LETTERS, one behind the other, are THE LINE.")
    void terms_aPhraseThatGoesBeyondTheLineIsNoCut() {
        phrases("0ab");
        line("ab");
        line("a");
        due(x.cuts(), 0);
        due(x.best(0, NONE), NO);
    }

    @Says("CUTS: LAWFUL ROWS whose LETTERS, one behind the other, are THE LINE.")
    void terms_aPhraseThatGoesBeyondTheFullLineIsNoCut() {
        phrases("0a", "1aaaaaa");
        line("a".repeat(40));
        x.begins(2);
        x.follows(1, 2);
        due(x.cuts(), 0);
        // 1 to 6 of six letters, then single ones
        x.follows(1, 3);
        x.follows(0, 1);
        due(x.cuts(), 6);
    }

    @Says("CUTS: LAWFUL ROWS whose LETTERS, one behind the other, are THE LINE.")
    void terms_everyLetterMustBeTheSame() {
        phrases("0abcdef");
        String[] near = {"bbcdef", "aacdef", "abddef", "abccef", "abcddf", "abcdee", "abcdeg"};
        for (String letters : near) {
            line(letters);
            due(x.cuts(), 0);
        }
        line("abcdef");
        due(x.cuts(), 1);
    }

    @Says("CUTS: LAWFUL ROWS whose LETTERS, one behind the other, are THE LINE.")
    void terms_lettersCountInTheLineAndNotMorae() {
        phrases("0e", "0aa");
        line("e");
        due(x.cuts(), 1);
        line("aa");
        due(x.cuts(), 1);
        line("ee");
        due(x.cuts(), 1);
    }

    // ---- makers

    @Says("MAKERS 0 .. 2, each with a HABIT of each PHRASE (0 at first).")
    void terms_eachMakerHasAHabitOf0AtFirst() {
        twelveOfOneMora();
        for (int i = 0; i < 12; i++) {
            for (int m = 0; m <= 2; m++) {
                due(x.of(i, 4 + m), 0);
            }
        }
    }

    @Says("MAKERS 0 .. 2, each with a HABIT of each PHRASE (0 at first).")
    void terms_eachMakerHasHabitsOfHisOwn() {
        phrases("0a", "1b");
        sing(0, "a", 1);
        sing(2, "b", 2);
        habitsAre(0, 1, 0);
        habitsAre(1, 0, 0);
        habitsAre(2, 0, 2);
    }

    @Says("MAKERS 0 .. 2, each with a HABIT of each PHRASE (0 at first).")
    void terms_thereIsNoMaker3() {
        phrases("0a");
        line("a");
        due(x.sings(2), 1);
        due(x.sings(3), BAD);
        due(x.sings(-1), BAD);
    }

    @Says("BEST of a MAKER: the CUT with the greatest sum of HABITS;")
    void terms_theGreatestSumGoesAheadOfTheFewest() {
        phrases("0aa", "0a");
        sing(0, "a", 1);
        line("aa");
        bestIs(0, 2, 1, 1);
        bestIs(1, 0, 0);
    }

    @Says("BEST of a MAKER: the CUT with the greatest sum of HABITS;")
    void terms_theGreatestSumGoesAheadOfTheFirst() {
        phrases("0a", "1a");
        x.begins(2);
        sing(0, "a", 1);
        x.begins(15);
        bestIs(0, 1, 1);
        bestIs(1, 0, 0);
    }

    @Says("BEST of a MAKER: the CUT with the greatest sum of HABITS;")
    void terms_aGreaterSumThatIsNotLawfulIsNotBest() {
        phrases("0a", "1a");
        x.begins(2);
        sing(0, "a", 1);
        x.begins(1);
        x.follows(0, 1);
        line("aa");
        bestIs(0, 0, 0, 0);
    }

    @Says("of like ones that with the fewest PHRASES;")
    void terms_ofLikeSumsTheFewestGoesAheadOfTheFirst() {
        phrases("0a", "0aa");
        line("aa");
        bestIs(0, 0, 1);
    }

    @Says("of like ones that with the fewest PHRASES;")
    void terms_ofLikeSumsAbove0TheFewest() {
        phrases("0a", "0b", "0ab");
        x.begins(1);
        sing(0, "a", 1);
        sing(0, "b", 1);
        sing(0, "ab", 0);
        bestIs(0, 2, 0, 1);
        phrases("1ab");
        x.begins(2);
        x.sings(0);
        x.sings(0);
        x.begins(15);
        bestIs(0, 2, 3);
    }

    @Says("of like ones the first.")
    void terms_ofLikeSumsAndAsFewTheFirst() {
        phrases("0ab", "0a", "0bc", "0c");
        line("abc");
        bestIs(0, 0, 0, 3);
    }

    @Says("of like ones the first.")
    void terms_theFirstIsToldWhereTheyFirstDiffer() {
        phrases("1a", "0a");
        line("aa");
        bestIs(0, 0, 0, 0);
        x.follows(1, 1);
        bestIs(0, 0, 0, 1);
        x.begins(1);
        bestIs(0, 0, 1, 0);
    }

    @Says("SUNG by a MAKER: each PHRASE of his BEST brings its HABIT 1 more")
    void terms_sungRaisesTheHabitsOfBestAlone() {
        phrases("0a", "1a", "0b");
        sing(1, "ab", 1);
        habitsAre(1, 1, 0, 1);
        habitsAre(0, 0, 0, 0);
        habitsAre(2, 0, 0, 0);
    }

    @Says("(as often as it is in it).")
    void terms_sungRaisesAsOftenAsThePhraseIsThere() {
        phrases("0a", "1b");
        sing(0, "abaa", 1);
        habitsAre(0, 3, 1);
        x.sings(0);
        habitsAre(0, 6, 2);
    }

    // ---- what a maker fixes

    @Says("FIXED: a PHRASE is what a MAKER FIXES its SLOT to, if its HABIT is above 0")
    void terms_aHabitOf0FixesNothing() {
        phrases("0a");
        due(x.fixes(0, 0), NONE);
    }

    @Says("FIXED: a PHRASE is what a MAKER FIXES its SLOT to, if its HABIT is above 0")
    void terms_aHabitOf1Fixes() {
        phrases("0b", "0a", "0c");
        sing(0, "a", 1);
        due(x.fixes(0, 0), 1);
    }

    @Says("FIXED: a PHRASE is what a MAKER FIXES its SLOT to, if its HABIT is above 0")
    void terms_theHabitOfAnotherMakerFixesNothing() {
        phrases("0a");
        sing(1, "a", 1);
        due(x.fixes(0, 0), NONE);
        due(x.fixes(1, 0), 0);
        due(x.fixes(2, 0), NONE);
    }

    @Says("and that of all others of that SLOT is 0.")
    void terms_twoHabitsOfASlotFixNothing() {
        phrases("0a", "0b");
        sing(0, "a", 5);
        due(x.fixes(0, 0), 0);
        sing(0, "b", 1);
        due(x.fixes(0, 0), NONE);
    }

    @Says("and that of all others of that SLOT is 0.")
    void terms_threeHabitsOfASlotFixNothing() {
        phrases("0a", "0b", "0c");
        sing(0, "abc", 1);
        due(x.fixes(0, 0), NONE);
    }

    @Says("and that of all others of that SLOT is 0.")
    void terms_aHabitOfAnotherSlotDoesNoHarm() {
        phrases("0a", "3b");
        sing(0, "ab", 1);
        due(x.fixes(0, 0), 0);
        due(x.fixes(0, 3), 1);
        due(x.fixes(0, 1), NONE);
    }
}
