/** Promises 1 to 7: a new object; phrases, rules. */
final class EdgesOfPhrases extends EdgeCase {

    // ---- 1: a new object

    @Says("As told;")
    void p01_allIsAsToldAtFirst() {
        int[] due = {0, 0, 0, 0, 0, 0, 0, 12, 15, 15, 15, 15, 15, 15, 0};
        for (int what = 0; what < due.length; what++) {
            due(x.told(what), due[what]);
        }
    }

    @Says("As told;")
    void p01_allMarksAreFreeAtFirst() {
        for (int place = 1; place <= 39; place++) {
            due(x.marks(place, 0), 0);
        }
    }

    @Says("no PHRASES.")
    void p01_thereIsNoPhraseAtFirst() {
        due(x.told(5), 0);
        due(x.of(0, 0), BAD);
        due(x.drops(0), BAD);
        due(x.weight(0, 0), BAD);
    }

    @Says("As told;")
    void p01_aNewObjectKnowsNothingOfAnother() {
        SungLines other = new SungLines();
        other.phrase(0, 1);
        other.letter(1);
        other.sings(0);
        other.marks(1, 2);
        other.follows(0, 0);
        other.told(99);
        due(new SungLines().digest(), x.digest());
        due(x.told(0), 0);
    }

    // ---- 2: phrase

    @Says("A PHRASE of a SLOT;")
    void p02_slots0And3AreTheLeastAndTheMost() {
        due(x.phrase(0, 1), 0);
        due(x.phrase(3, 1), 1);
        due(x.of(0, 0), 0);
        due(x.of(1, 0), 3);
    }

    @Says("BAD;")
    void p02_aSlotBelow0IsBad() {
        due(x.phrase(-1, 1), BAD);
        due(x.phrase(LOW, 1), BAD);
        due(x.told(5), 0);
    }

    @Says("BAD;")
    void p02_aSlotAbove3IsBad() {
        due(x.phrase(4, 1), BAD);
        due(x.phrase(HIGH, 1), BAD);
        due(x.told(5), 0);
    }

    @Says({"its LETTERS are the figures of code", "(1 to 8: a to h;"})
    void p02_figures1To8AreLetters() {
        for (int c = 1; c <= 8; c++) {
            due(x.phrase(0, c), c - 1);
            due(x.of(c - 1, 3), c);
        }
    }

    @Says("1 to 6 figures,")
    void p02_oneFigureIsEnough() {
        due(x.phrase(0, 8), 0);
        due(x.of(0, 1), 1);
    }

    @Says("1 to 6 figures,")
    void p02_noFigureIsBad() {
        due(x.phrase(0, 0), BAD);
    }

    @Says("1 to 6 figures,")
    void p02_sixFiguresAreTheMost() {
        due(x.phrase(0, 111111), 0);
        due(x.phrase(0, 888888), 1);
        due(x.of(0, 1), 6);
        due(x.of(1, 1), 6);
    }

    @Says("1 to 6 figures,")
    void p02_sevenFiguresAreBad() {
        due(x.phrase(0, 1111111), BAD);
        due(x.phrase(0, 8888888), BAD);
    }

    /** All ten figures of the greatest int are LETTERS. */
    @Says("1 to 6 figures,")
    void p02_manyFiguresAreBad() {
        due(x.phrase(0, HIGH), BAD);
        due(x.phrase(0, 123456781), BAD);
    }

    @Says("none 0 or 9),")
    void p02_aFigure0IsBadAtEveryPlace() {
        for (int code : new int[] {10, 101, 100, 555550, 555505, 555055, 550555, 505555}) {
            due(x.phrase(0, code), BAD);
        }
    }

    @Says("none 0 or 9),")
    void p02_aFigure9IsBadAtEveryPlace() {
        due(x.phrase(0, 9), BAD);
        for (int unit = 1; unit <= 100000; unit *= 10) {
            due(x.phrase(0, 555555 + 4 * unit), BAD);
        }
    }

    @Says("BAD;")
    void p02_aCodeBelow0IsBad() {
        due(x.phrase(0, -1), BAD);
        due(x.phrase(0, -15), BAD);
        due(x.phrase(0, LOW), BAD);
    }

    @Says("the first one highest:")
    void p02_theFirstLetterIsTheHighestFigure() {
        x.phrase(0, 15);
        line("ae");
        due(x.cuts(), 1);
        line("ea");
        due(x.cuts(), 0);
    }

    @Says("its number.")
    void p02_itsNumberIsHowManyWereThere() {
        due(x.phrase(2, 7), 0);
        due(x.phrase(1, 7), 1);
        x.drops(0);
        due(x.phrase(3, 7), 1);
    }

    @Says("S.")
    void p02_itLeavesAState() {
        x.phrase(0, 1);
        statesAre(1);
        due(x.back(), 0);
        due(x.told(5), 0);
    }

    @Says("NO: it is there;")
    void p02_alikeInSlotAndLettersIsNo() {
        x.phrase(1, 12);
        due(x.phrase(1, 12), NO);
        due(x.told(5), 1);
    }

    @Says("NO: it is there;")
    void p02_alikeToTheLastOfMany() {
        twelveOfOneMora();
        x.drops(0);
        due(x.phrase(2, 4), NO);
    }

    @Says("NO: it is there;")
    void p02_oneThatWasDroppedIsNotThere() {
        x.phrase(1, 12);
        x.drops(0);
        due(x.phrase(1, 12), 0);
    }

    @Says("FULL: 12.")
    void p02_theTwelfthComes() {
        twelveOfOneMora();
        due(x.told(5), 12);
        due(x.of(11, 3), 4);
        refusedAre(0, 0, 0, 0);
    }

    @Says("FULL: 12.")
    void p02_theThirteenthIsFull() {
        twelveOfOneMora();
        due(x.phrase(3, 1), FULL);
        due(x.told(5), 12);
    }

    @Says("FULL: 12.")
    void p02_oneMoreComesWhenOneHasGone() {
        twelveOfOneMora();
        x.drops(5);
        due(x.phrase(3, 1), 11);
        due(x.phrase(3, 2), FULL);
    }

    @Says({"NO: it is there;", "FULL: 12."})
    void p02_noIsAheadOfFull() {
        twelveOfOneMora();
        due(x.phrase(0, 1), NO);
        refusedAre(0, 1, 0, 0);
    }

    @Says({"BAD;", "FULL: 12."})
    void p02_badIsAheadOfFull() {
        twelveOfOneMora();
        due(x.phrase(3, 9), BAD);
        due(x.phrase(4, 1), BAD);
        refusedAre(2, 0, 0, 0);
    }

    // ---- 3: drops

    @Says({"A PHRASE goes", "how many are left."})
    void p03_theOnlyOneGoes() {
        phrases("0a");
        due(x.drops(0), 0);
        due(x.told(5), 0);
    }

    @Says("(those behind it are one nearer, HABITS with them):")
    void p03_whenTheFirstGoesAllAreNearer() {
        phrases("0a", "1b", "2ce");
        sing(2, "bcece", 1);
        due(x.drops(0), 2);
        int[][] due = {{1, 1, 1, 2, 0, 0, 1}, {2, 2, 3, 35, 0, 0, 2}};
        for (int i = 0; i < 2; i++) {
            for (int what = 0; what < 7; what++) {
                due(x.of(i, what), due[i][what]);
            }
        }
    }

    @Says("(those behind it are one nearer, HABITS with them):")
    void p03_whenTheLastGoesNoneIsNearer() {
        phrases("0a", "1b", "2c");
        sing(1, "abbccc", 1);
        due(x.drops(2), 2);
        due(x.of(0, 3), 1);
        due(x.of(1, 3), 2);
        habitsAre(1, 1, 2);
        due(x.of(2, 3), BAD);
    }

    @Says("(those behind it are one nearer, HABITS with them):")
    void p03_whenOneBetweenGoesThoseAheadStay() {
        phrases("0a", "1b", "2c");
        sing(0, "abbccc", 1);
        due(x.drops(1), 2);
        due(x.of(0, 3), 1);
        due(x.of(1, 3), 3);
        habitsAre(0, 1, 3);
    }

    @Says("(those behind it are one nearer, HABITS with them):")
    void p03_theTwelfthIsNearerToo() {
        twelveOfOneMora();
        due(x.drops(0), 11);
        due(x.of(10, 0), 2);
        due(x.of(10, 3), 4);
        due(x.of(11, 3), BAD);
    }

    @Says("A PHRASE goes")
    void p03_itsHabitsGoWithIt() {
        phrases("0a", "0b");
        sing(0, "b", 3);
        x.drops(1);
        phrases("0b");
        habitsAre(0, 0, 0);
    }

    @Says("A PHRASE goes")
    void p03_itIsInNoRowAnyMore() {
        phrases("0a", "1aa");
        line("aa");
        x.metre(2);
        due(x.cuts(), 2);
        due(x.made(), 2);
        bestIs(0, 0, 1);
        x.drops(1);
        due(x.cuts(), 1);
        due(x.made(), 1);
        bestIs(0, 0, 0, 0);
        rowIs(0, 0, 0);
    }

    @Says("S.")
    void p03_itLeavesAState() {
        phrases("0a", "1b");
        long before = stateImage();
        x.drops(0);
        statesAre(3);
        due(x.back(), 2);
        due(stateImage(), before);
    }

    @Says("BAD.")
    void p03_belowTheFirstIsBad() {
        phrases("0a");
        due(x.drops(-1), BAD);
        due(x.drops(LOW), BAD);
        due(x.told(5), 1);
    }

    @Says("BAD.")
    void p03_behindTheLastIsBad() {
        phrases("0a", "1b");
        due(x.drops(2), BAD);
        due(x.drops(HIGH), BAD);
        due(x.told(5), 2);
    }

    @Says("BAD.")
    void p03_behindTheTwelfthIsBad() {
        twelveOfOneMora();
        due(x.drops(12), BAD);
        due(x.drops(11), 11);
        due(x.drops(11), BAD);
    }

    // ---- 4: begins

    @Says({"BEGINS becomes v (0 .. 15):", "what it was."})
    void p04_becomes0TheLeast() {
        due(x.begins(0), 15);
        due(x.told(8), 0);
    }

    @Says({"BEGINS becomes v (0 .. 15):", "what it was."})
    void p04_becomes15TheMost() {
        x.begins(0);
        due(x.begins(15), 0);
        due(x.told(8), 15);
    }

    @Says("BAD.")
    void p04_below0IsBad() {
        x.begins(6);
        due(x.begins(-1), BAD);
        due(x.begins(LOW), BAD);
        due(x.told(8), 6);
    }

    @Says("BAD.")
    void p04_above15IsBad() {
        x.begins(6);
        due(x.begins(16), BAD);
        due(x.begins(HIGH), BAD);
        due(x.told(8), 6);
    }

    @Says("S.")
    void p04_itLeavesAState() {
        x.begins(6);
        x.begins(7);
        due(x.back(), 1);
        due(x.told(8), 6);
    }

    @Says("S.")
    void p04_itLeavesAStateIfItStays() {
        due(x.begins(15), 15);
        statesAre(1);
    }

    // ---- 5: ends

    @Says({"ENDS becomes v (0 .. 15):", "what it was."})
    void p05_becomes0TheLeast() {
        due(x.ends(0), 15);
        due(x.told(9), 0);
    }

    @Says({"ENDS becomes v (0 .. 15):", "what it was."})
    void p05_becomes15TheMost() {
        x.ends(0);
        due(x.ends(15), 0);
        due(x.told(9), 15);
    }

    @Says("BAD.")
    void p05_below0IsBad() {
        x.ends(6);
        due(x.ends(-1), BAD);
        due(x.ends(LOW), BAD);
        due(x.told(9), 6);
    }

    @Says("BAD.")
    void p05_above15IsBad() {
        x.ends(6);
        due(x.ends(16), BAD);
        due(x.ends(HIGH), BAD);
        due(x.told(9), 6);
    }

    @Says("S.")
    void p05_itLeavesAState() {
        x.ends(6);
        x.ends(7);
        due(x.back(), 1);
        due(x.told(9), 6);
    }

    @Says("S.")
    void p05_itLeavesAStateIfItStays() {
        due(x.ends(15), 15);
        statesAre(1);
    }

    // ---- 6: follows

    @Says({"FOLLOWS of a SLOT becomes v (0 .. 15):", "what it was."})
    void p06_becomes0TheLeast() {
        due(x.follows(1, 0), 15);
        due(x.told(11), 0);
    }

    @Says({"FOLLOWS of a SLOT becomes v (0 .. 15):", "what it was."})
    void p06_becomes15TheMost() {
        x.follows(1, 0);
        due(x.follows(1, 15), 0);
        due(x.told(11), 15);
    }

    @Says("FOLLOWS of a SLOT becomes v (0 .. 15):")
    void p06_slots0And3HaveTheirOwn() {
        due(x.follows(0, 4), 15);
        due(x.follows(3, 9), 15);
        due(x.told(10), 4);
        due(x.told(11), 15);
        due(x.told(12), 15);
        due(x.told(13), 9);
    }

    @Says("BAD.")
    void p06_below0IsBad() {
        x.follows(2, 6);
        due(x.follows(2, -1), BAD);
        due(x.follows(2, LOW), BAD);
        due(x.told(12), 6);
    }

    @Says("BAD.")
    void p06_above15IsBad() {
        x.follows(2, 6);
        due(x.follows(2, 16), BAD);
        due(x.follows(2, HIGH), BAD);
        due(x.told(12), 6);
    }

    @Says("BAD.")
    void p06_aSlotBelow0IsBad() {
        due(x.follows(-1, 3), BAD);
        due(x.follows(LOW, 3), BAD);
    }

    @Says("BAD.")
    void p06_aSlotAbove3IsBad() {
        due(x.follows(4, 3), BAD);
        due(x.follows(HIGH, 3), BAD);
    }

    @Says("S.")
    void p06_itLeavesAState() {
        x.follows(3, 6);
        x.follows(3, 7);
        due(x.back(), 1);
        due(x.told(13), 6);
    }

    @Says("S.")
    void p06_itLeavesAStateIfItStays() {
        due(x.follows(0, 15), 15);
        statesAre(1);
    }

    // ---- 7: of

    @Says("Of a PHRASE:")
    void p07_theFirstAndTheTwelfthPhrase() {
        twelveOfOneMora();
        due(x.of(0, 3), 1);
        due(x.of(11, 3), 4);
    }

    @Says("SLOT (what 0),")
    void p07_what0IsTheSlot() {
        phrases("0a", "3a");
        due(x.of(0, 0), 0);
        due(x.of(1, 0), 3);
    }

    @Says("how many LETTERS (1),")
    void p07_what1IsHowManyLetters() {
        phrases("0a", "0efghab");
        due(x.of(0, 1), 1);
        due(x.of(1, 1), 6);
    }

    @Says("MORAE (2),")
    void p07_what2IsMorae() {
        phrases("0a", "0hhhhhh", "0de");
        due(x.of(0, 2), 1);
        due(x.of(1, 2), 12);
        due(x.of(2, 2), 3);
    }

    @Says("code (3),")
    void p07_what3IsTheCode() {
        x.phrase(0, 888888);
        due(x.of(0, 3), 888888);
    }

    @Says("HABIT of MAKERS 0 to 2 (4 to 6).")
    void p07_what4To6AreHabitsOfMakers0To2() {
        phrases("0a");
        sing(0, "a", 1);
        sing(1, "a", 2);
        sing(2, "a", 3);
        due(x.of(0, 4), 1);
        due(x.of(0, 5), 2);
        due(x.of(0, 6), 3);
    }

    @Says("BAD.")
    void p07_whatBelow0IsBad() {
        phrases("0a");
        due(x.of(0, -1), BAD);
        due(x.of(0, LOW), BAD);
    }

    @Says("BAD.")
    void p07_whatAbove6IsBad() {
        phrases("0a");
        due(x.of(0, 7), BAD);
        due(x.of(0, HIGH), BAD);
    }

    @Says("BAD.")
    void p07_belowTheFirstPhraseIsBad() {
        phrases("0a");
        due(x.of(-1, 0), BAD);
        due(x.of(LOW, 0), BAD);
    }

    @Says("BAD.")
    void p07_behindTheLastPhraseIsBad() {
        phrases("0a", "1a");
        due(x.of(2, 0), BAD);
        due(x.of(HIGH, 0), BAD);
        x.drops(0);
        due(x.of(1, 0), BAD);
    }

    @Says("BAD.")
    void p07_behindTheTwelfthIsBad() {
        twelveOfOneMora();
        due(x.of(12, 0), BAD);
    }
}
