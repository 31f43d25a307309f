/** Promises 1 to 7 at their edges: each method holds one sentence of the document, told above it. */
public final class BoundaryChildrenTest extends Checks {
    public static void main(String[] args) throws Exception {
        run(BoundaryChildrenTest.class, 1, 7);
    }

    // ---- a new object

    // "no CHILDREN, no STOPS, no PAPERS"
    static void promise1_nothingIsThere() {
        ParcelRing x = new ParcelRing();
        due(0, x.count(0), x.count(1), x.count(2), x.count(3), x.count(12));
        due(BAD, x.childTold(0, 0), x.told(0, 0), x.sorts(0, 0), x.textTold(0, 0));
    }

    // "TAKEN .. is 0 at first", "TIME, SWEETS, FORFEITS are 0 at first", "THE RULE is 0 (at first)"
    static void promise1_allIs0AtFirst() {
        ParcelRing x = new ParcelRing();
        due(0, x.count(4), x.count(7), x.count(8), x.count(9), x.count(10), x.count(11), x.count(13), x.count(14));
    }

    // "AT: a CHILD (0 at first)", though there is none yet; "WAY: 1 (.. at first)"; "z .. (1 at first)"
    static void promise1_atIs0AndWayAndZAre1AtFirst() {
        ParcelRing x = new ParcelRing();
        row(of(0, 1, 1), x.count(5), x.count(6), x.count(15));
    }

    // "or MISSING (at first)", "SLOTS 0 .. 4 each hold nothing (at first)"
    static void promise1_sheetsAreMissingAndSlotsHoldNothing() {
        ParcelRing x = new ParcelRing();
        for (int i = 0; i < 4; i++) due(NOTHING, x.reads(i), x.pour(i), x.filmed(i, 0), x.mark(i, 0, 0), x.lay(0, 2, i));
        for (int i = 0; i < 5; i++) due(NOTHING, x.ask(i, 0), x.item(i, 0), x.rest(i, 1));
    }

    // An image and texts that count are there only if they came.
    static void promise1_noImageAndNoLaws() {
        ParcelRing x = new ParcelRing();
        due(NO, x.back(), x.check(1));
        due(NONE, x.why(0), x.why(1), x.why(2));
    }

    // One object has nothing of another one.
    static void promise1_objectsStandApart() {
        full();
        row(everything(new ParcelRing()), everything(new ParcelRing()));
        due(0, new ParcelRing().count(0), new ParcelRing().count(12), new ParcelRing().count(14));
    }

    // ---- child

    // "HOLD 1 .. 9": too small
    static void promise2_holdBelow1IsBad() {
        ParcelRing x = new ParcelRing();
        due(BAD, x.child(0), x.child(-1), x.child(MIN));
        due(0, x.count(0));
    }

    // "HOLD 1 .. 9": too large
    static void promise2_holdAbove9IsBad() {
        ParcelRing x = new ParcelRing();
        due(BAD, x.child(10), x.child(11), x.child(MAX));
        due(0, x.count(0));
    }

    // "HOLD 1 .. 9": the least and the greatest
    static void promise2_holds1And9AreTaken() {
        ParcelRing x = new ParcelRing();
        row(of(0, 1), x.child(1), x.child(9));
        row(of(1, 9), x.childTold(0, 0), x.childTold(1, 0));
    }

    // "CHILDREN, 10 at most, numbered from 0"
    static void promise2_theTenthComes() {
        ParcelRing x = new ParcelRing();
        for (int i = 0; i < 10; i++) due(i, x.child(9));
        row(of(10, 10, 9), x.count(0), x.count(1), x.childTold(9, 0));
    }

    // "FULL": the eleventh, and nothing changes
    static void promise2_theEleventhIsFull() {
        refused(FULL, x -> x.child(1), x -> x.child(9));
    }

    // "of several the one that stands first with it": BAD; FULL
    static void promise2_badStandsAheadOfFull() {
        refused(BAD, x -> x.child(0), x -> x.child(10), x -> x.child(MIN), x -> x.child(MAX));
    }

    // "HAD 0 .. 99 (0 at first), OUT or IN (IN at first)"
    static void promise2_aNewOneHasHad0AndIsIn() {
        ParcelRing x = ring(4);
        row(of(0, 0, 1), x.childTold(0, 1), x.childTold(0, 2), x.count(1));
    }

    // As above, where one stood there who is gone with the image.
    static void promise2_aNewOneIsNewThoughAnotherStoodThere() {
        ParcelRing x = new ParcelRing();
        x.keep();
        x.child(9);
        x.lays(0, 1, 99);
        x.lays(0, 2, 1);
        x.back();
        due(0, x.child(2));
        row(of(2, 0, 0), x.childTold(0, 0), x.childTold(0, 1), x.childTold(0, 2));
    }

    // "numbered from 0 round the ring": one more comes between the last and the first.
    static void promise2_oneMoreStandsAheadOfTheFirst() {
        ParcelRing x = ring(1, 1);
        due(0, x.childTold(1, 4));
        x.child(1);
        row(of(2, 0), x.childTold(1, 4), x.childTold(2, 4));
    }

    // ---- childTold

    // "Of a CHILD": there is no such one
    static void promise3_noSuchChildIsBad() {
        ParcelRing x = ring(1, 1);
        due(BAD, x.childTold(-1, 0), x.childTold(2, 0), x.childTold(MIN, 4), x.childTold(MAX, 4));
        due(BAD, new ParcelRing().childTold(0, 0), new ParcelRing().childTold(-1, 4));
        refused(BAD, y -> y.childTold(10, 0), y -> y.childTold(-1, 0));
    }

    // "what 0 .. 4"
    static void promise3_whatBelow0OrAbove4IsBad() {
        refused(BAD, x -> x.childTold(0, -1), x -> x.childTold(0, 5), x -> x.childTold(9, MIN), x -> x.childTold(9, MAX));
    }

    // It is only told: nothing changes.
    static void promise3_nothingChanges() {
        thought(x -> x.childTold(0, 0), x -> x.childTold(9, 1), x -> x.childTold(4, 2), x -> x.childTold(4, 3), x -> x.childTold(4, 4));
    }

    // "NEXT: the first one by THE WAY": "1 (to the next number, round)"
    static void promise3_nextWrapsFromTheLastToTheFirst() {
        ParcelRing x = ring(1, 1, 1);
        row(of(1, 2, 0), x.childTold(0, 4), x.childTold(1, 4), x.childTold(2, 4));
    }

    // "or 0 (to the one ahead, round)"
    static void promise3_nextWrapsFromTheFirstToTheLast() {
        ParcelRing x = ring(1, 1, 1);
        x.rule(1, 0);
        row(of(2, 0, 1), x.childTold(0, 4), x.childTold(1, 4), x.childTold(2, 4));
    }

    // "that is IN": those who are OUT are passed over, round the end too
    static void promise3_nextPassesOverThoseWhoAreOut() {
        ParcelRing x = ring(1, 1, 1, 1);
        x.lays(0, 2, 1);
        x.lays(3, 2, 1);
        row(of(1, 2, 1, 1), x.childTold(0, 4), x.childTold(1, 4), x.childTold(2, 4), x.childTold(3, 4));
        x.rule(1, 0);
        row(of(2, 2, 1, 2), x.childTold(0, 4), x.childTold(1, 4), x.childTold(2, 4), x.childTold(3, 4));
    }

    // "(not itself, but last of all)"
    static void promise3_nextIsItselfIfNobodyElseIsIn() {
        ParcelRing x = ring(1, 1, 1);
        x.lays(0, 2, 1);
        x.lays(2, 2, 1);
        due(1, x.childTold(0, 4), x.childTold(1, 4), x.childTold(2, 4));
        due(0, ring(5).childTold(0, 4));
        x.rule(1, 0);
        due(1, x.childTold(0, 4), x.childTold(1, 4), x.childTold(2, 4));
    }

    // "(NONE: nobody is IN)"
    static void promise3_nextIsNoneIfNobodyIsIn() {
        ParcelRing x = ring(1, 1);
        x.lays(0, 2, 1);
        x.lays(1, 2, 1);
        due(NONE, x.childTold(0, 4), x.childTold(1, 4));
    }

    // "HOLDS: what hold gives, held within 1 .. 99": below
    static void promise3_holdsAre1AtLeast() {
        ParcelRing x = ring(3);
        text(x, "hold h-1");
        due(2, x.childTold(0, 3));
        text(x, "hold h-2");
        due(1, x.childTold(0, 3));
        text(x, "hold h-3");
        due(1, x.childTold(0, 3));
        text(x, "hold h-9999");
        due(1, x.childTold(0, 3));
    }

    // "held within 1 .. 99": above
    static void promise3_holdsAre99AtMost() {
        ParcelRing x = ring(3);
        text(x, "hold h+95");
        due(98, x.childTold(0, 3));
        text(x, "hold h+96");
        due(99, x.childTold(0, 3));
        text(x, "hold h+97");
        due(99, x.childTold(0, 3));
        text(x, "hold 9999*9999");
        due(99, x.childTold(0, 3));
    }

    // "Ints wrap": what has wrapped round below 0 is held at 1.
    static void promise3_whatWrapsIsHeldBehindTheWrap() {
        ParcelRing x = ring(3);
        text(x, "hold 8*4096*4096*16");
        due(1, x.childTold(0, 3));
        text(x, "hold 8*4096*4096*16-1");
        due(99, x.childTold(0, 3));
    }

    // "(without a TEXT: HOLD; 1, if THE PAPER is a FORFEIT)"
    static void promise3_holdsAre1ByAForfeitAlone() {
        ParcelRing x = ring(9);
        due(9, x.childTold(0, 3));
        x.paper(0);
        due(9, x.childTold(0, 3));
        x.sorts(0, 1);
        due(9, x.childTold(0, 3));
        x.sorts(0, 2);
        row(of(1, 9), x.childTold(0, 3), x.childTold(0, 0));
    }

    // "THE PAPER is the one with the number TAKEN (plain, if there is none such)"
    static void promise3_thePaperBehindTheLastIsPlain() {
        ParcelRing x = ring(9);
        papers(x, 0, 2);
        due(9, x.childTold(0, 3));
        x.go(1);
        due(1, x.childTold(0, 3));
        x.go(1);
        due(9, x.childTold(0, 3));
        text(x, "hold f+5");
        due(5, x.childTold(0, 3));
    }

    // The paper with the number 19 is the last that there can be.
    static void promise3_thePaper19Counts() {
        ParcelRing x = ring(9);
        for (int i = 0; i < 20; i++) x.paper(2);
        takeUpTo(x, 19);
        due(1, x.childTold(0, 3));
        x.go(1);
        due(9, x.childTold(0, 3));
    }

    // "without a TEXT": with one a FORFEIT is told by f alone
    static void promise3_withATextAForfeitIsToldByItsName() {
        ParcelRing x = ring(9);
        x.paper(2);
        text(x, "hold h");
        due(9, x.childTold(0, 3));
        text(x, "hold h+f");
        due(11, x.childTold(0, 3));
    }

    // ---- lays

    // "of a CHILD": there is no such one
    static void promise4_noSuchChildIsBad() {
        refused(BAD, x -> x.lays(-1, 0, 1), x -> x.lays(10, 0, 1), x -> x.lays(MIN, 1, 0), x -> x.lays(MAX, 2, 0));
        due(BAD, new ParcelRing().lays(0, 0, 1), ring(1).lays(1, 1, 0));
    }

    // "what 0 .. 2"
    static void promise4_whatBelow0OrAbove2IsBad() {
        refused(BAD, x -> x.lays(0, -1, 1), x -> x.lays(0, 3, 1), x -> x.lays(0, MIN, 1), x -> x.lays(0, MAX, 1));
    }

    // "HOLD 1 .. 9"
    static void promise4_holdIs1To9() {
        refused(BAD, x -> x.lays(0, 0, 0), x -> x.lays(0, 0, 10), x -> x.lays(0, 0, MIN), x -> x.lays(0, 0, MAX));
        ParcelRing x = ring(5);
        row(of(5, 1, 9), x.lays(0, 0, 1), x.lays(0, 0, 9), x.lays(0, 0, 9));
        due(9, x.childTold(0, 0));
    }

    // "HAD 0 .. 99"
    static void promise4_hadIs0To99() {
        refused(BAD, x -> x.lays(0, 1, -1), x -> x.lays(0, 1, 100), x -> x.lays(0, 1, MIN), x -> x.lays(0, 1, MAX));
        ParcelRing x = ring(5);
        row(of(0, 99, 0), x.lays(0, 1, 99), x.lays(0, 1, 0), x.lays(0, 1, 0));
        due(0, x.childTold(0, 1));
    }

    // "OUT (1, 0)"
    static void promise4_outIs1Or0() {
        refused(BAD, x -> x.lays(0, 2, -1), x -> x.lays(0, 2, 2), x -> x.lays(0, 2, MIN), x -> x.lays(0, 2, MAX));
        ParcelRing x = ring(5);
        row(of(0, 1, 1, 0), x.lays(0, 2, 1), x.lays(0, 2, 1), x.lays(0, 2, 0), x.lays(0, 2, 0));
        due(1, x.count(1));
    }

    // The last child, and no other one.
    static void promise4_theLastChildAlone() {
        ParcelRing x = ring(1, 1, 1, 1, 1, 1, 1, 1, 1, 1);
        due(1, x.lays(9, 0, 7));
        due(0, x.lays(9, 1, 7), x.lays(9, 2, 1));
        row(of(7, 7, 1), x.childTold(9, 0), x.childTold(9, 1), x.childTold(9, 2));
        row(of(1, 0, 0, 9), x.childTold(8, 0), x.childTold(8, 1), x.childTold(8, 2), x.count(1));
    }

    // ---- paper

    // "SORT 0 plain, 1 SWEET, 2 FORFEIT"
    static void promise5_sortBelow0OrAbove2IsBad() {
        ParcelRing x = new ParcelRing();
        due(BAD, x.paper(-1), x.paper(3), x.paper(MIN), x.paper(MAX));
        due(0, x.count(3));
        row(of(0, 1), x.paper(0), x.paper(2));
        row(of(0, 2), x.sorts(0, 0), x.sorts(1, 0));
    }

    // "PAPERS, 20 at most, numbered from 0"
    static void promise5_theTwentiethComes() {
        ParcelRing x = new ParcelRing();
        for (int i = 0; i < 20; i++) due(i, x.paper(1));
        row(of(20, 1), x.count(3), x.sorts(19, 0));
    }

    // "FULL": the twenty-first
    static void promise5_theTwentyFirstIsFull() {
        refused(FULL, x -> x.paper(0), x -> x.paper(1), x -> x.paper(2));
    }

    // BAD; FULL
    static void promise5_badStandsAheadOfFull() {
        refused(BAD, x -> x.paper(-1), x -> x.paper(3));
    }

    // "One more PAPER, within all": it is behind all others, also of those that are taken.
    static void promise5_oneMoreIsWithinAll() {
        ParcelRing x = ring(1);
        x.stop(0, 0, 0);
        x.paper(0);
        x.go(1);
        due(1, x.paper(1));
        x.go(1);
        due(1, x.count(9));
        // This one comes too late: three were taken by then, and it has the number 2.
        x.go(1);
        due(2, x.paper(1));
        x.go(1);
        due(1, x.count(9));
    }

    // ---- sorts

    // "of a PAPER": there is no such one
    static void promise6_noSuchPaperIsBad() {
        refused(BAD, x -> x.sorts(-1, 0), x -> x.sorts(20, 0), x -> x.sorts(MIN, 0), x -> x.sorts(MAX, 0));
        ParcelRing x = new ParcelRing();
        due(BAD, x.sorts(0, 0));
        x.paper(0);
        due(BAD, x.sorts(1, 0));
    }

    // "SORT 0 .. 2"
    static void promise6_sortBelow0OrAbove2IsBad() {
        refused(BAD, x -> x.sorts(0, -1), x -> x.sorts(0, 3), x -> x.sorts(19, MIN), x -> x.sorts(19, MAX));
    }

    // "what it was": of the first and the last paper, the same sort again too
    static void promise6_theFirstAndTheLast() {
        ParcelRing x = full();
        row(of(0, 2, 2, 0), x.sorts(0, 2), x.sorts(0, 2), x.sorts(0, 0), x.sorts(0, 0));
        row(of(1, 2, 0), x.sorts(19, 2), x.sorts(19, 0), x.sorts(19, 1));
        row(of(2, 0), x.sorts(17, 2), x.sorts(18, 0));
    }

    // A paper that is taken is still one of those that there are.
    static void promise6_aTakenPaperBecomesAnother() {
        ParcelRing x = ring(1);
        x.stop(0, 0, 0);
        x.paper(0);
        x.go(1);
        due(0, x.sorts(0, 1));
        due(1, x.sorts(0, 2));
        due(0, x.count(9), x.count(10));
    }

    // ---- rule

    // "what 0 .. 2"
    static void promise7_whatBelow0OrAbove2IsBad() {
        refused(BAD, x -> x.rule(-1, 0), x -> x.rule(3, 0), x -> x.rule(MIN, 1), x -> x.rule(MAX, 1));
    }

    // "THE RULE is 0 (at first) or 1"
    static void promise7_theRuleIs0Or1() {
        refused(BAD, x -> x.rule(0, -1), x -> x.rule(0, 2), x -> x.rule(0, MIN), x -> x.rule(0, MAX));
        ParcelRing x = new ParcelRing();
        row(of(0, 1, 1, 0), x.rule(0, 1), x.rule(0, 1), x.rule(0, 0), x.rule(0, 0));
    }

    // "WAY: 1 .. or 0"
    static void promise7_theWayIs1Or0() {
        refused(BAD, x -> x.rule(1, -1), x -> x.rule(1, 2), x -> x.rule(1, MIN), x -> x.rule(1, MAX));
        ParcelRing x = new ParcelRing();
        row(of(1, 0, 0, 1), x.rule(1, 0), x.rule(1, 0), x.rule(1, 1), x.rule(1, 1));
    }

    // "AT (2; a CHILD)"
    static void promise7_atIsAChild() {
        refused(BAD, x -> x.rule(2, -1), x -> x.rule(2, 10), x -> x.rule(2, MIN), x -> x.rule(2, MAX));
        ParcelRing x = new ParcelRing();
        due(BAD, x.rule(2, 0), x.rule(2, -1));
        x.child(1);
        due(BAD, x.rule(2, 1));
        due(0, x.rule(2, 0));
        for (int i = 1; i < 10; i++) x.child(1);
        row(of(0, 9, 9), x.rule(2, 9), x.rule(2, 9), x.count(5));
    }

    // "a CHILD": also one who is OUT
    static void promise7_atMayBeOneWhoIsOut() {
        ParcelRing x = ring(1, 1, 1);
        x.lays(2, 2, 1);
        due(0, x.rule(2, 2));
        row(of(2, 0), x.count(5), x.lands(0));
    }
}
