/** Terms, 2: states to go back to; what is refused. */
final class EdgesOfStates extends EdgeCase {

    /** Something of all that a STATE holds, in few calls; two phrases, a line, habits, marks. */
    private void fill() {
        read("f0a;f1eb;laeb;s0;s2;k3 2;k39 1;b7;e11;w1 13;t30;");
    }

    /** Each call told S, with something that it does not refuse. */
    private void tell(int kind) {
        switch (kind) {
            case 0: x.phrase(2, 15); break;
            case 1: x.drops(0); break;
            case 2: x.begins(3); break;
            case 3: x.ends(3); break;
            case 4: x.follows(1, 1); break;
            case 5: x.letter(4); break;
            case 6: x.wipes(); break;
            case 7: x.sings(1); break;
            case 8: x.metre(5); break;
            case 9: x.marks(39, 2); break;
            default: x.reads();
        }
    }

    /** Each call told S, with something that it refuses; there are 12 phrases and a full line. */
    private void tellWhatIsRefused() {
        due(x.phrase(0, 9), BAD);
        due(x.phrase(0, 1), NO);
        due(x.phrase(3, 1), FULL);
        due(x.drops(12), BAD);
        due(x.begins(16), BAD);
        due(x.ends(16), BAD);
        due(x.follows(4, 0), BAD);
        due(x.letter(0), BAD);
        due(x.letter(1), FULL);
        due(x.sings(3), BAD);
        due(x.sings(0), NO);
        due(x.metre(0), BAD);
        due(x.marks(0, 0), BAD);
    }

    private void askAll() {
        x.of(0, 0);
        x.cuts();
        x.best(0, 0);
        x.fixes(0, 0);
        x.made();
        x.row(0, 0);
        x.weight(0, 0);
        x.picks(0, 0, 0);
        x.told(0);
        x.digest();
    }

    // ---- states

    @Says("STATES: each call told S, if it is not refused, leaves one,")
    void terms_eachCallToldSLeavesOne() {
        for (int kind = 0; kind <= 10; kind++) {
            EdgesOfStates one = new EdgesOfStates();
            one.fill();
            one.type("t9;");
            one.tell(kind);
            due(one.x.told(14), 2);
            due(one.x.back(), 1);
        }
    }

    @Says("STATES: each call told S, if it is not refused, leaves one,")
    void terms_whatIsRefusedLeavesNone() {
        type("f0a;f0b;f0c;f0d;f1a;f1b;f1c;f1d;f2a;f2b;f2c;f2d;l" + "e".repeat(40) + ";");
        x.reads();
        statesAre(1);
        tellWhatIsRefused();
        statesAre(1);
    }

    @Says("STATES: each call told S, if it is not refused, leaves one,")
    void terms_whatIsRefusedLosesNone() {
        twelveOfOneMora();
        line("e".repeat(40));
        for (int n = 1; n <= 5; n++) {
            x.metre(n);
        }
        tellWhatIsRefused();
        for (int n = 4; n >= 0; n--) {
            due(x.back(), n);
            due(x.told(7), n == 0 ? 12 : n);
        }
    }

    @Says("STATES: each call told S, if it is not refused, leaves one,")
    void terms_questionsAndTypingLeaveNone() {
        phrases("0a");
        line("a");
        statesAre(3);
        askAll();
        x.type('b');
        x.clear();
        statesAre(3);
    }

    @Says("STATES: each call told S, if it is not refused, leaves one,")
    void terms_goingBackLeavesNone() {
        x.metre(1);
        x.metre(2);
        due(x.back(), 1);
        statesAre(1);
        due(x.back(), 0);
        statesAre(0);
        due(x.back(), NO);
        due(x.told(7), 12);
    }

    @Says("also if nothing changes by it,")
    void terms_aCallThatChangesNothingLeavesOne() {
        x.wipes();
        x.begins(15);
        x.ends(15);
        x.follows(0, 15);
        statesAre(4);
        x.metre(12);
        statesAre(5);
        due(x.back(), 4);
        x.marks(1, 0);
        statesAre(5);
        due(x.back(), 4);
        due(read("l;"), 1);
        statesAre(5);
    }

    @Says("to go back to (all but THE TEXT and how often refused),")
    void terms_allOfAStateComesBack() {
        for (int kind = 0; kind <= 10; kind++) {
            EdgesOfStates one = new EdgesOfStates();
            one.fill();
            one.type("t9;");
            long before = one.stateImage();
            one.tell(kind);
            one.x.back();
            due(one.stateImage(), before);
        }
    }

    /** The phrases that came since, and went, leave nothing of theirs behind. */
    @Says("to go back to (all but THE TEXT and how often refused),")
    void terms_aStateComesBackOverAllOtherChanges() {
        fill();
        long before = stateImage();
        read("x0;x0;f2abc;f3h;f0e;lehe;s1;b15;e15;w0 3;w1 15;w2 7;w3 1;t2;k3 0;k39 0;k1 1;k2 2;");
        x.back();
        due(stateImage(), before);
        line("aeb");
        due(x.cuts(), 1);
        bestIs(0, 2, 0, 1);
        due(x.of(1, 1), 2);
        due(x.of(1, 2), 3);
    }

    @Says("to go back to (all but THE TEXT and how often refused),")
    void terms_theTextStaysGoingBack() {
        x.metre(1);
        x.type('b');
        x.type('3');
        x.back();
        due(x.told(4), 2);
        x.type(';');
        due(x.reads(), 1);
        due(x.told(8), 3);
        x.clear();
        x.back();
        due(x.told(4), 0);
    }

    @Says("to go back to (all but THE TEXT and how often refused),")
    void terms_howOftenRefusedStaysGoingBack() {
        phrases("0a", "1a", "2a");
        line("a".repeat(40));
        x.letter(9);
        x.letter(1);
        x.phrase(0, 1);
        x.cuts();
        refusedAre(1, 1, 1, 1);
        x.back();
        refusedAre(1, 1, 1, 1);
    }

    @Says("5 at most, older ones lost.")
    void terms_theFifthIsKept() {
        for (int n = 1; n <= 5; n++) {
            x.metre(n);
            statesAre(n);
        }
        for (int n = 4; n >= 0; n--) {
            due(x.back(), n);
            due(x.told(7), n == 0 ? 12 : n);
        }
        due(x.back(), NO);
    }

    @Says("5 at most, older ones lost.")
    void terms_theSixthLosesTheOldest() {
        for (int n = 1; n <= 6; n++) {
            x.metre(n);
        }
        statesAre(5);
        for (int n = 4; n >= 0; n--) {
            due(x.back(), n);
            due(x.told(7), n + 1);
        }
        due(x.back(), NO);
        due(x.told(7), 1);
    }

    /** More than any room for STATES could be gone round. */
    @Says("5 at most, older ones lost.")
    void terms_manyMoreLoseAllButFive() {
        for (int n = 1; n <= 40; n++) {
            x.metre(n);
            if (n >= 5) {
                statesAre(5);
            }
        }
        for (int n = 39; n >= 35; n--) {
            due(x.back(), n - 35);
            due(x.told(7), n);
        }
        due(x.back(), NO);
    }

    /** Two on, one back, and so round and round. */
    @Says("5 at most, older ones lost.")
    void terms_onAndBackInTurn() {
        for (int n = 1; n <= 36; n++) {
            x.metre(n);
            x.metre(n + 2);
            due(x.back(), Math.min(n, 4));
            due(x.told(7), n);
        }
        for (int n = 35; n >= 32; n--) {
            due(x.back(), n - 32);
            due(x.told(7), n);
        }
        due(x.back(), NO);
    }

    /** What was gone back over is lost, and does not come back. */
    @Says("5 at most, older ones lost.")
    void terms_aNewStateTakesThePlaceOfWhatWasGoneBackOver() {
        x.metre(1);
        x.metre(2);
        x.metre(3);
        x.back();
        x.back();
        x.metre(7);
        statesAre(2);
        due(x.back(), 1);
        due(x.told(7), 1);
        due(x.back(), 0);
        due(x.told(7), 12);
    }

    // ---- what is refused

    @Says("Refused (a question, too), changing nothing but how often,")
    void terms_aCallThatIsRefusedChangesNothing() {
        fill();
        long before = image();
        x.phrase(0, 9);
        x.phrase(0, 1);
        x.drops(2);
        x.begins(16);
        x.ends(-1);
        x.follows(0, 16);
        x.letter(0);
        x.sings(3);
        x.metre(41);
        x.marks(3, 3);
        x.type(128);
        x.begins(LOW);
        due(image(), before);
        refusedAre(11, 1, 0, 0);
    }

    @Says("Refused (a question, too), changing nothing but how often,")
    void terms_aQuestionThatIsRefusedCountsAndChangesNothing() {
        fill();
        x.letter(8);
        long before = image();
        due(x.of(2, 0), BAD);
        due(x.best(0, -3), BAD);
        due(x.fixes(0, 4), BAD);
        due(x.row(-1, 0), BAD);
        due(x.weight(3, 0), BAD);
        due(x.picks(0, -1, 0), BAD);
        due(x.told(15), BAD);
        refusedAre(7, 0, 0, 0);
        due(x.best(0, 0), NO);
        due(x.row(MOST, 0), NO);
        refusedAre(7, 2, 0, 0);
        due(image(), before);
    }

    @Says("Refused (a question, too), changing nothing but how often,")
    void terms_eachRefusalCountsOnceAndOfItsKindAlone() {
        fourOfA();
        due(x.letter(0), BAD);
        refusedAre(1, 0, 0, 0);
        due(x.best(0, 0), NO);
        refusedAre(1, 1, 0, 0);
        x.metre(32);
        due(x.made(), MUCH);
        refusedAre(1, 1, 0, 1);
        line("a".repeat(40));
        due(x.letter(1), FULL);
        refusedAre(1, 1, 1, 1);
    }

    @Says("Refused (a question, too), changing nothing but how often,")
    void terms_whatIsNotRefusedCountsNowhere() {
        phrases("0a");
        line("a");
        askAll();
        due(x.best(0, 5), NOT_SO_MANY);
        due(x.row(0, 12), NOT_SO_MANY);
        due(x.picks(0, 0, 12), NOT_SO_MANY);
        due(x.fixes(0, 0), NONE);
        refusedAre(0, 0, 0, 0);
    }

    @Says("the first of: BAD -2 a number is not as told; MUCH -5: TOO MUCH; NO -3 as told; FULL -4 as told.")
    void terms_badIsTheFirst() {
        fourOfA();
        x.metre(33);
        x.begins(0);
        due(x.row(-1, 0), BAD);
        due(x.row(0, -2), BAD);
        due(x.weight(0, 4), BAD);
        due(x.picks(0, 1000000, 0), BAD);
        due(x.best(0, -3), BAD);
        due(x.sings(3), BAD);
        refusedAre(6, 0, 0, 0);
    }

    @Says("the first of: BAD -2 a number is not as told; MUCH -5: TOO MUCH; NO -3 as told; FULL -4 as told.")
    void terms_badIsAheadOfFull() {
        twelveOfOneMora();
        line("a".repeat(40));
        type(" ".repeat(150));
        due(x.phrase(3, 0), BAD);
        due(x.letter(0), BAD);
        due(x.type(-1), BAD);
        refusedAre(3, 0, 0, 0);
    }

    @Says("the first of: BAD -2 a number is not as told; MUCH -5: TOO MUCH; NO -3 as told; FULL -4 as told.")
    void terms_muchIsAheadOfNo() {
        fourOfA();
        x.metre(33);
        x.begins(0);
        due(x.row(MOST, 0), MUCH);
        due(x.picks(2, 0, 0), MUCH);
        refusedAre(0, 0, 0, 2);
    }

    @Says("the first of: BAD -2 a number is not as told; MUCH -5: TOO MUCH; NO -3 as told; FULL -4 as told.")
    void terms_noIsAheadOfFull() {
        twelveOfOneMora();
        due(x.phrase(2, 4), NO);
        due(x.phrase(3, 4), FULL);
        refusedAre(0, 1, 1, 0);
    }

    @Says("By THE TEXT nothing counts.")
    void terms_ordersThatAreRefusedCountNowhere() {
        twelveOfOneMora();
        due(read("b16;"), -1000);
        due(read("f0a;"), -1000);
        due(read("f3a;"), -1000);
        due(read("s0;"), -1000);
        refusedAre(0, 0, 0, 0);
    }

    @Says("By THE TEXT nothing counts.")
    void terms_faultsCountNowhere() {
        due(x.reads(), -10);
        due(read("z"), -10);
        due(read("b100;"), -13);
        refusedAre(0, 0, 0, 0);
    }
}
