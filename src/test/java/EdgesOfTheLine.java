/** Promises 8 to 13: the line. */
final class EdgesOfTheLine extends EdgeCase {
    private static final String A40 = "a".repeat(40);

    // ---- 8: letter

    @Says("A LETTER (1 .. 8) comes behind THE LINE:")
    void p08_letters1And8AreTheLeastAndTheMost() {
        due(x.letter(1), 1);
        due(x.letter(8), 2);
        phrases("0ah");
        due(x.cuts(), 1);
    }

    @Says("A LETTER (1 .. 8) comes behind THE LINE:")
    void p08_itComesBehindNotAhead() {
        phrases("0ab");
        x.letter(1);
        x.letter(2);
        due(x.cuts(), 1);
    }

    @Says("how many it has.")
    void p08_the40thComes() {
        for (int n = 1; n <= 40; n++) {
            due(x.letter(1), n);
        }
        due(x.told(6), 40);
    }

    @Says("FULL: 40.")
    void p08_the41stIsFull() {
        line(A40);
        due(x.letter(1), FULL);
        due(x.told(6), 40);
        refusedAre(0, 0, 1, 0);
    }

    @Says("FULL: 40.")
    void p08_whatIsFullPutsNoLetterInTheOthersStead() {
        phrases("0a");
        line(A40);
        x.letter(2);
        due(x.cuts(), 1);
    }

    @Says("BAD;")
    void p08_below1IsBad() {
        due(x.letter(0), BAD);
        due(x.letter(-1), BAD);
        due(x.letter(LOW), BAD);
        due(x.told(6), 0);
    }

    @Says("BAD;")
    void p08_above8IsBad() {
        due(x.letter(9), BAD);
        due(x.letter(HIGH), BAD);
        due(x.told(6), 0);
    }

    @Says({"BAD;", "FULL: 40."})
    void p08_badIsAheadOfFull() {
        line(A40);
        due(x.letter(9), BAD);
        due(x.letter(0), BAD);
        refusedAre(2, 0, 0, 0);
    }

    @Says("S.")
    void p08_itLeavesAState() {
        x.letter(1);
        x.letter(2);
        due(x.back(), 1);
        due(x.told(6), 1);
    }

    // ---- 9: wipes

    @Says({"THE LINE is empty:", "how many it had."})
    void p09_aFullLine() {
        line(A40);
        due(x.wipes(), 40);
        due(x.told(6), 0);
        due(x.letter(1), 1);
    }

    @Says({"THE LINE is empty:", "how many it had."})
    void p09_aLineOfOneLetter() {
        x.letter(5);
        due(x.wipes(), 1);
    }

    @Says("how many it had.")
    void p09_anEmptyLineHad0() {
        due(x.wipes(), 0);
        refusedAre(0, 0, 0, 0);
    }

    @Says("S.")
    void p09_itLeavesAState() {
        line("abc");
        long before = stateImage();
        x.wipes();
        x.back();
        due(stateImage(), before);
    }

    @Says("S.")
    void p09_anEmptyLineLeavesAStateToo() {
        x.wipes();
        statesAre(1);
    }

    // ---- 10: cuts

    @Says("CUTS: how many.")
    void p10_anEmptyLineHas0() {
        phrases("0a");
        due(x.cuts(), 0);
        refusedAre(0, 0, 0, 0);
    }

    @Says("CUTS: how many.")
    void p10_withoutPhrasesThereAre0() {
        line("a");
        due(x.cuts(), 0);
    }

    @Says("CUTS: how many.")
    void p10_oneLetterOnePhrase() {
        phrases("0a");
        line("a");
        due(x.cuts(), 1);
    }

    @Says("CUTS: how many.")
    void p10_fortyLettersByLongPhrases() {
        phrases("0abcdef", "1abcd");
        line("abcdef".repeat(6) + "abcd");
        due(x.cuts(), 1);
        x.drops(1);
        due(x.cuts(), 0);
    }

    @Says("CUTS: how many.")
    void p10_aShorterLineBehindALongerOne() {
        phrases("0a", "0aa");
        line("aaaaa");
        due(x.cuts(), 8);
        line("aa");
        due(x.cuts(), 2);
    }

    /** 2 times 3 to the 39th: above a half of the most. */
    @Says("CUTS: how many.")
    void p10_manyButNotTooMuch() {
        phrases("0a", "1a", "2a");
        line(A40);
        x.begins(3);
        due(x.cuts(), 8105110306037952534L);
    }

    @Says("MUCH.")
    void p10_tooMuchIsMuch() {
        phrases("0a", "1a", "2a");
        line(A40);
        due(x.cuts(), MUCH);
        refusedAre(0, 0, 0, 1);
    }

    /** 2 to the 63rd is one above the most. */
    @Says("MUCH.")
    void p10_oneAboveTheMostIsMuch() {
        fourOfA();
        line("a".repeat(32));
        x.begins(1);
        due(x.cuts(), 4611686018427387904L);
        x.begins(3);
        due(x.cuts(), MUCH);
    }

    // ---- 11: best

    @Says({"BEST of a MAKER: how many PHRASES (i NONE),", "the sum of HABITS (-2),"})
    void p11_withoutHabitsTheSumIs0() {
        phrases("0a");
        line("aa");
        due(x.best(0, NONE), 2);
        due(x.best(0, SUM), 0);
    }

    @Says("the sum of HABITS (-2),")
    void p11_theSumCountsAPhraseAsOftenAsItIsThere() {
        phrases("0a");
        sing(0, "aaa", 1);
        due(x.best(0, SUM), 9);
    }

    @Says("the i-th PHRASE;")
    void p11_theFirstIs0TheLastOneLessThanHowMany() {
        phrases("0a", "1b");
        line("a".repeat(39) + "b");
        due(x.best(0, 0), 0);
        due(x.best(0, 38), 0);
        due(x.best(0, 39), 1);
    }

    @Says("the i-th PHRASE;")
    void p11_phrase11OfTwelve() {
        twelveOfOneMora();
        line("ddd");
        bestIs(0, 0, 3, 3, 3);
        x.begins(4);
        bestIs(0, 0, 11, 3, 3);
        x.ends(4);
        bestIs(0, 0, 11, 3, 11);
    }

    @Says("the sum of HABITS (-2),")
    void p11_aShorterLineBehindALongerOne() {
        for (String phrase : new String[] {"0a", "3a"}) {
            phrases(phrase);
            sing(0, "a", 1);
            line("aaa");
            bestIs(0, 3, 0, 0, 0);
            line("a");
            bestIs(0, 1, 0);
            x.drops(0);
        }
    }

    @Says("-10: not so many.")
    void p11_behindTheLastIsMinus10() {
        phrases("0a");
        line("aa");
        due(x.best(0, 2), NOT_SO_MANY);
        due(x.best(0, HIGH), NOT_SO_MANY);
    }

    @Says("-10: not so many.")
    void p11_behindTheLastOf40IsMinus10() {
        phrases("0a");
        line(A40);
        due(x.best(0, 40), NOT_SO_MANY);
    }

    @Says("-10: not so many.")
    void p11_minus10IsNotRefused() {
        phrases("0a");
        line("aa");
        x.best(0, 2);
        refusedAre(0, 0, 0, 0);
    }

    @Says("BAD: i below -2, too;")
    void p11_iBelowMinus2IsBad() {
        phrases("0a");
        line("a");
        due(x.best(0, -3), BAD);
        due(x.best(0, -10), BAD);
        due(x.best(0, LOW), BAD);
    }

    @Says("BAD: i below -2, too;")
    void p11_aMakerBelow0IsBad() {
        phrases("0a");
        line("a");
        due(x.best(-1, 0), BAD);
        due(x.best(LOW, 0), BAD);
    }

    @Says("BAD: i below -2, too;")
    void p11_aMakerAbove2IsBad() {
        phrases("0a");
        line("a");
        due(x.best(2, 0), 0);
        due(x.best(3, 0), BAD);
        due(x.best(HIGH, 0), BAD);
    }

    @Says("NO: there is no CUT.")
    void p11_anEmptyLineIsNo() {
        phrases("0a");
        due(x.best(0, 0), NO);
        due(x.best(0, NONE), NO);
        due(x.best(0, SUM), NO);
        refusedAre(0, 3, 0, 0);
    }

    @Says("NO: there is no CUT.")
    void p11_aLineThatCanNotBeCutIsNo() {
        phrases("0a");
        line("ab");
        due(x.best(0, 0), NO);
    }

    @Says("NO: there is no CUT.")
    void p11_noGoesAheadOfNotSoMany() {
        due(x.best(0, 7), NO);
    }

    @Says({"BAD: i below -2, too;", "NO: there is no CUT."})
    void p11_badIsAheadOfNo() {
        due(x.best(3, 0), BAD);
        due(x.best(0, -3), BAD);
        refusedAre(2, 0, 0, 0);
    }

    /** No MUCH is told of it. */
    @Says("BEST of a MAKER: how many PHRASES (i NONE),")
    void p11_itIsFoundWhereCutsAreTooMuch() {
        fourOfA();
        line(A40);
        due(x.cuts(), MUCH);
        due(x.best(0, NONE), 40);
        due(x.best(0, 39), 0);
    }

    // ---- 12: sings

    @Says({"SUNG:", "how many PHRASES BEST has."})
    void p12_oneAndForty() {
        phrases("0a");
        line("a");
        due(x.sings(0), 1);
        line(A40);
        due(x.sings(0), 40);
        habitsAre(0, 41);
    }

    @Says("SUNG:")
    void p12_itIsFoundWhereCutsAreTooMuch() {
        fourOfA();
        line(A40);
        due(x.sings(1), 40);
        habitsAre(1, 40, 0, 0, 0);
    }

    @Says("S.")
    void p12_itLeavesAState() {
        phrases("0a");
        line("a");
        x.sings(2);
        x.sings(2);
        statesAre(5);
        due(x.back(), 4);
        habitsAre(2, 1);
    }

    @Says("BAD;")
    void p12_aMakerBelow0IsBad() {
        phrases("0a");
        line("a");
        due(x.sings(-1), BAD);
        due(x.sings(LOW), BAD);
    }

    @Says("BAD;")
    void p12_aMakerAbove2IsBad() {
        phrases("0a");
        line("a");
        due(x.sings(3), BAD);
        due(x.sings(HIGH), BAD);
        due(x.sings(2), 1);
    }

    @Says("NO: there is no CUT.")
    void p12_anEmptyLineIsNo() {
        phrases("0a");
        due(x.sings(0), NO);
        statesAre(1);
    }

    @Says("NO: there is no CUT.")
    void p12_aLineThatCanNotBeCutIsNo() {
        phrases("0a");
        line("ab");
        due(x.sings(0), NO);
        habitsAre(0, 0);
        refusedAre(0, 1, 0, 0);
    }

    @Says({"BAD;", "NO: there is no CUT."})
    void p12_badIsAheadOfNo() {
        due(x.sings(3), BAD);
        refusedAre(1, 0, 0, 0);
    }

    // ---- 13: fixes

    @Says("The PHRASE to which a MAKER FIXES a SLOT;")
    void p13_theFirstAndTheTwelfthPhrase() {
        twelveOfOneMora();
        x.begins(1);
        sing(0, "a", 1);
        due(x.fixes(0, 0), 0);
        x.begins(4);
        sing(0, "d", 1);
        due(x.fixes(0, 2), 11);
    }

    @Says("NONE.")
    void p13_aSlotWithoutPhrasesIsNone() {
        due(x.fixes(0, 0), NONE);
        due(x.fixes(2, 3), NONE);
    }

    @Says("NONE.")
    void p13_noneIsNotRefused() {
        x.fixes(0, 0);
        refusedAre(0, 0, 0, 0);
    }

    @Says("BAD.")
    void p13_aMakerBelow0IsBad() {
        due(x.fixes(-1, 0), BAD);
        due(x.fixes(LOW, 0), BAD);
    }

    @Says("BAD.")
    void p13_aMakerAbove2IsBad() {
        due(x.fixes(3, 0), BAD);
        due(x.fixes(HIGH, 0), BAD);
    }

    @Says("BAD.")
    void p13_aSlotBelow0IsBad() {
        due(x.fixes(0, -1), BAD);
        due(x.fixes(0, LOW), BAD);
    }

    @Says("BAD.")
    void p13_aSlotAbove3IsBad() {
        due(x.fixes(0, 4), BAD);
        due(x.fixes(0, HIGH), BAD);
    }
}
