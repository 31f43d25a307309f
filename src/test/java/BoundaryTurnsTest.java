/** Promises 15 to 18 at their edges: each method holds one sentence of the document, told above it. */
public final class BoundaryTurnsTest extends Checks {
    public static void main(String[] args) throws Exception {
        run(BoundaryTurnsTest.class, 15, 18);
    }

    private static void allOut(ParcelRing x) {
        for (int i = 0; i < x.count(0); i++) x.lays(i, 2, 1);
    }

    // ---- lands

    // "s (0 .. 9999) seconds"
    static void promise15_secondsBelow0OrAbove9999AreBad() {
        refused(BAD, x -> x.lands(-1), x -> x.lands(10000), x -> x.lands(MIN), x -> x.lands(MAX));
        ParcelRing x = ring(1, 1, 1);
        row(of(0, 0), x.lands(0), x.lands(9999));
    }

    // BAD; "NONE: nobody is IN"
    static void promise15_badStandsAheadOfNone() {
        ParcelRing x = ring(1, 1);
        allOut(x);
        due(BAD, x.lands(-1), x.lands(10000));
        due(NONE, x.lands(0), x.lands(1), x.lands(9999));
    }

    // "or not there": AT is 0 though there is no CHILD; nobody is IN then
    static void promise15_noneWithoutChildren() {
        due(NONE, new ParcelRing().lands(0), new ParcelRing().lands(9999));
        due(BAD, new ParcelRing().lands(-1));
    }

    // "(0: where it begins"
    static void promise15_behind0SecondsItIsWhereItBegins() {
        ParcelRing x = ring(1, 1, 1);
        due(0, x.lands(0));
        x.rule(2, 2);
        due(2, x.lands(0));
    }

    // "what one HOLDS just over it is with NEXT)"
    static void promise15_justOverItIsWithNext() {
        ParcelRing x = ring(9, 1, 4);
        row(of(0, 1, 2, 2, 0), x.lands(8), x.lands(9), x.lands(10), x.lands(13), x.lands(14));
    }

    // Round and round: a ROUND further it is with the same one, by both WAYS.
    static void promise15_roundAndRound() {
        ParcelRing x = ring(3, 2, 5);
        for (int s = 0; s < 40; s++) due(x.lands(s), x.lands(s + 10), x.lands(s + 9950));
        x.rule(1, 0);
        x.rule(2, 1);
        // 1 for 2 seconds, 0 for 3, 2 for 5.
        row(of(1, 0, 0, 2, 2, 1), x.lands(1), x.lands(2), x.lands(4), x.lands(5), x.lands(9), x.lands(10));
        for (int s = 0; s < 40; s++) due(x.lands(s), x.lands(s + 10), x.lands(s + 9950));
    }

    // The longest ROUND that there can be: ten who hold it for 99 seconds.
    static void promise15_theLongestRound() {
        ParcelRing x = ring(1, 1, 1, 1, 1, 1, 1, 1, 1, 1);
        text(x, "hold 99");
        row(of(990, 0, 1, 9, 9, 0), x.round(), x.lands(98), x.lands(99), x.lands(891), x.lands(989), x.lands(990));
        // 9999 is ten rounds and 99 seconds.
        row(of(0, 1), x.lands(9998), x.lands(9999));
    }

    // "(if that is not IN, ..: NEXT of it)", round the end, by both WAYS
    static void promise15_beginsWithNextIfTheOneAtIsOut() {
        ParcelRing x = ring(2, 3, 4);
        x.rule(2, 2);
        x.lays(2, 2, 1);
        row(of(0, 0, 1, 1, 0), x.lands(0), x.lands(1), x.lands(2), x.lands(4), x.lands(5));
        x.rule(1, 0);
        row(of(1, 1, 0, 0, 1), x.lands(0), x.lands(2), x.lands(3), x.lands(4), x.lands(5));
        due(2, x.count(5));
    }

    // One alone who is IN keeps it.
    static void promise15_oneAloneKeepsIt() {
        ParcelRing x = ring(2, 3, 4);
        x.lays(0, 2, 1);
        x.lays(2, 2, 1);
        due(1, x.lands(0), x.lands(2), x.lands(3), x.lands(4), x.lands(9999));
        due(0, ring(9).lands(0), ring(9).lands(9), ring(1).lands(9999));
    }

    static void promise15_nothingChanges() {
        thought(x -> x.lands(0), x -> x.lands(77), x -> x.lands(9999));
    }

    // ---- round

    // "HOLDS of all who are IN, together": nobody
    static void promise16_nobodyIsIn() {
        due(0, new ParcelRing().round());
        ParcelRing x = ring(9, 9);
        allOut(x);
        due(0, x.round());
    }

    // The least and the most.
    static void promise16_theLeastAndTheMost() {
        due(1, ring(1).round());
        due(90, ring(9, 9, 9, 9, 9, 9, 9, 9, 9, 9).round());
        ParcelRing x = ring(1, 1, 1, 1, 1, 1, 1, 1, 1, 1);
        text(x, "hold 100");
        due(990, x.round());
        text(x, "hold 0");
        due(10, x.round());
    }

    // By a FORFEIT each HOLDS 1; those who are OUT are not counted.
    static void promise16_byAForfeitAsManyAsAreIn() {
        ParcelRing x = ring(9, 8, 7, 6);
        x.paper(2);
        due(4, x.round());
        x.lays(1, 2, 1);
        due(3, x.round());
        x.go(1);
        due(22, x.round());
    }

    static void promise16_nothingChanges() {
        thought(x -> x.round());
    }

    // ---- go

    // "n (1 .. 100)"
    static void promise17_fewerThan1OrMoreThan100IsBad() {
        refused(BAD, x -> x.go(0), x -> x.go(-1), x -> x.go(101), x -> x.go(MIN), x -> x.go(MAX));
        ParcelRing x = ring(1);
        x.go(1);
        due(1, x.count(4));
        x.go(100);
        due(101, x.count(4));
    }

    // "TURNS (no more than up to 9999)"
    static void promise17_noMoreThanUpTo9999() {
        ParcelRing x = ring(1, 1, 1);
        takeUpTo(x, 9997);
        x.stop(0, 1, 0);
        // Of a hundred two turns are left: 1, then 2.
        due(2, x.go(100));
        row(of(9999, 2, 2), x.count(4), x.count(8), x.count(5));
        row(of(0, 1, 1), hads(x));
    }

    // At 9999 there are no turns more: where AT, and nothing changes.
    static void promise17_at9999NothingChanges() {
        ParcelRing x = ring(1, 1, 1);
        takeUpTo(x, 9998);
        x.stop(1, 1, 0);
        int x1 = drawn(1, 1)[0] % 10;
        due((1 + x1) % 3, x.go(1));
        due((1 + x1) % 3, x.go(1), x.go(100));
        row(of(9999, 1 + x1, drawnOn(1, 1)), x.count(4), x.count(8), x.count(15));
    }

    // "the one with the number TAKEN modulo how many there are"
    static void promise17_behindTheLastStopComesTheFirst() {
        ParcelRing x = ring(1, 1, 1, 1, 1);
        x.stop(0, 1, 0);
        x.stop(0, 3, 0);
        row(of(1, 4, 0, 3), x.go(1), x.go(1), x.go(1), x.go(1));
        // Three were to come, now four are taken: 4 modulo 3 is 1, then 2, then 0.
        x.stop(0, 0, 0);
        row(of(1, 1, 2), x.go(1), x.go(1), x.go(1));
    }

    // Ten stops, the last of them too.
    static void promise17_theTenthStop() {
        ParcelRing x = ring(1, 1, 1);
        for (int i = 0; i < 9; i++) x.stop(0, 0, 0);
        x.stop(0, 2, 0);
        row(of(0, 2, 2), x.go(9), x.go(1), x.go(9));
        due(1, x.go(1));
    }

    // "(If there are no STOPS, .. TAKEN is 1 more alone.)"
    static void promise17_noStops() {
        ParcelRing x = ring(1, 1, 1);
        papers(x, 1, 2, 1);
        x.rule(0, 1);
        x.rule(2, 1);
        due(1, x.go(3));
        row(of(3, 3, 1, 1, 0, 0, 0, 1), x.count(1), x.count(4), x.count(5), x.count(6), x.count(8), x.count(9), x.count(10), x.count(15));
        row(of(0, 0, 0), hads(x));
    }

    // "(If .. nobody is IN, TAKEN is 1 more alone.)": no draw, no TIME, no SWEET, THE WAY does not turn
    static void promise17_nobodyIsIn() {
        ParcelRing x = ring(1, 1, 1);
        papers(x, 1, 2, 1);
        x.stop(1, 5, 0);
        x.rule(2, 2);
        allOut(x);
        due(2, x.go(3));
        row(of(3, 2, 1, 0, 0, 0, 1), x.count(4), x.count(5), x.count(6), x.count(8), x.count(9), x.count(10), x.count(15));
        row(of(0, 0, 0), hads(x));
        ParcelRing y = new ParcelRing();
        y.stop(1, 5, 0);
        due(0, y.go(100));
        row(of(100, 0, 1), y.count(4), y.count(8), y.count(15));
    }

    // "If it is a LOT: a draw .. else x is 0": SNATCHED draws too, no other kind does
    static void promise17_lotsAndSnatchedAloneDraw() {
        int[] draws = {0, 1, 0, 1, 0, 0};
        for (int kind = 0; kind < 6; kind++) {
            ParcelRing x = ring(1, 1);
            x.stop(kind, 7, 0);
            x.go(1);
            due(drawnOn(1, draws[kind]), x.count(15));
        }
    }

    // "x is its rest by 10": of a z below 0 too
    static void promise17_theRestOfADrawBelow0() {
        for (int z : new int[] {MIN, -1, MAX, 0, 7, -7}) {
            ParcelRing x = ring(1, 1, 1, 1, 1, 1, 1, 1, 1, 1);
            x.stop(1, 0, 0);
            x.seed(z);
            int x1 = drawn(z, 2)[0] % 10, x2 = drawn(z, 2)[1] % 10;
            row(of(x1, (x1 + x2) % 10), x.go(1), x.go(1));
            due(x1 + x2, x.count(8));
        }
    }

    // "It LASTS by x so many seconds (TIME is so much more)": t is TIME as it was ahead of it
    static void promise17_timeIsMoreBehindWhatItLasts() {
        ParcelRing x = ring(1, 1, 1, 1, 1, 1, 1);
        x.stop(0, 0, 0);
        text(x, "stop t+1");
        // 1 second, then 2, then 4, then 8: 1, 3, 7 and 15 together.
        row(of(1, 3, 0, 1), x.go(1), x.go(1), x.go(1), x.go(1));
        due(15, x.count(8));
    }

    // The longest: a LOT of 999 seconds and x.
    static void promise17_theLongestTurn() {
        ParcelRing x = ring(1, 1, 1, 1, 1, 1, 1, 1, 1, 1);
        x.stop(1, 99, 0);
        text(x, "stop s*100");
        int x1 = drawn(1, 1)[0] % 10;
        due((999 + x1) % 10, x.go(1));
        due(999 + x1, x.count(8));
    }

    // "HELD: as STOP, less 1 (0 at least)"
    static void promise17_heldFor0Seconds() {
        ParcelRing x = ring(1, 1, 1);
        x.stop(5, 0, 0);
        row(of(0, 0), x.go(1), x.count(8));
        x.set(0, 1, 1);
        row(of(0, 0), x.go(1), x.count(8));
        x.set(0, 1, 2);
        row(of(1, 1), x.go(1), x.count(8));
    }

    // "SNATCHED: NEXT of where as LOT": round the end, by both WAYS; itself, if it is alone
    static void promise17_snatchedRoundTheEnd() {
        int x1 = drawn(1, 1)[0] % 10;
        ParcelRing x = ring(9, 9);
        x.stop(3, 0, 0);
        text(x, "hold 99");
        x.rule(2, 1);
        due(0, x.go(1));
        due(x1, x.count(8));
        ParcelRing y = ring(9, 9, 9);
        y.stop(3, 0, 0);
        text(y, "hold 99");
        y.rule(1, 0);
        due(2, y.go(1));
        ParcelRing z = ring(9, 9, 9);
        z.stop(3, 50, 0);
        z.lays(0, 2, 1);
        z.lays(2, 2, 1);
        due(1, z.go(1));
    }

    // "the first one with the fewest HAD", "(itself first)"
    static void promise17_anEveningGoesToItselfFirst() {
        ParcelRing x = ring(1, 1, 1);
        x.stop(2, 1, 0);
        due(1, x.go(1));
        // 0 and 2 have had none; from 2 on it is itself.
        due(2, x.go(1));
        row(of(0, 1, 1), hads(x));
        due(0, x.go(1));
        // All have had one: where it lands.
        due(1, x.go(1));
    }

    // "from where it LANDS on by THE WAY": round the end
    static void promise17_anEveningGoesRoundTheEnd() {
        ParcelRing x = ring(1, 1, 1, 1);
        x.stop(2, 2, 0);
        x.lays(2, 1, 9);
        x.lays(3, 1, 9);
        due(0, x.behind(1, 0));
        x.rule(1, 0);
        due(1, x.behind(1, 0));
        x.lays(1, 1, 9);
        due(0, x.behind(1, 0));
        x.lays(0, 1, 10);
        x.lays(3, 1, 8);
        due(3, x.behind(1, 0));
    }

    // "of all who are IN": the fewest of one who is OUT do not count
    static void promise17_anEveningPassesOverThoseWhoAreOut() {
        ParcelRing x = ring(1, 1, 1, 1);
        x.stop(2, 0, 0);
        x.lays(0, 1, 5);
        x.lays(1, 2, 1);
        x.lays(2, 1, 4);
        x.lays(3, 1, 3);
        due(3, x.go(1));
        ParcelRing y = ring(1, 1);
        y.stop(2, 0, 0);
        y.lays(0, 1, 99);
        y.lays(1, 2, 1);
        due(0, y.go(1));
        row(of(99, 0), hads(y));
    }

    // "WISHED: its WISH, if that is a CHILD that is IN, else as EVENING"
    static void promise17_wishedWithoutSuchAChild() {
        ParcelRing x = ring(1, 1, 1);
        x.stop(4, 0, 2);
        x.lays(0, 1, 1);
        x.lays(2, 1, 9);
        due(2, x.behind(1, 0));
        // It is OUT; there is none such; the greatest wish.
        x.lays(2, 2, 1);
        due(1, x.behind(1, 0));
        x.lays(2, 2, 0);
        x.set(0, 2, 3);
        due(1, x.behind(1, 0));
        x.set(0, 2, 9);
        due(1, x.behind(1, 0));
        x.set(0, 2, 0);
        due(0, x.behind(1, 0));
    }

    // A wish of 9 is the tenth child, if it is there.
    static void promise17_aWishOf9() {
        ParcelRing x = ring(1, 1, 1, 1, 1, 1, 1, 1, 1);
        x.stop(4, 0, 9);
        due(0, x.behind(1, 0));
        x.child(1);
        due(9, x.behind(1, 0));
    }

    // "HAD 1 more (99 at most)"
    static void promise17_hadIs99AtMost() {
        ParcelRing x = ring(1, 1);
        x.stop(0, 0, 0);
        x.lays(0, 1, 97);
        x.go(1);
        due(98, x.childTold(0, 1));
        x.go(1);
        due(99, x.childTold(0, 1));
        x.go(1);
        row(of(99, 0, 3), x.childTold(0, 1), x.childTold(1, 1), x.count(4));
    }

    // The one who has had 99 has the sweet, and is AT, all the same.
    static void promise17_oneWithHad99HasItAllTheSame() {
        ParcelRing x = ring(1, 1, 1);
        x.stop(0, 1, 0);
        x.lays(1, 1, 99);
        x.paper(1);
        x.rule(0, 1);
        row(of(1, 1, 99, 1), x.go(1), x.count(9), x.childTold(1, 1), x.childTold(1, 2));
    }

    // "a FORFEIT: FORFEITS 1 more, and THE WAY turns": from 1 to 0, and from 0 to 1
    static void promise17_aForfeitTurnsTheWayBothWays() {
        ParcelRing x = ring(1, 1, 1);
        papers(x, 2, 2, 1, 0);
        x.stop(0, 1, 0);
        row(of(1, 0, 1), x.go(1), x.count(6), x.count(10));
        row(of(0, 1, 2), x.go(1), x.count(6), x.count(10));
        row(of(1, 1, 2, 1), x.go(1), x.count(6), x.count(10), x.count(9));
        row(of(2, 1, 2, 1), x.go(1), x.count(6), x.count(10), x.count(9));
        // Behind the last paper all are plain.
        row(of(1, 1, 2, 1), x.go(2), x.count(6), x.count(10), x.count(9));
    }

    // "If THE RULE is 1 and more than 2 are IN, it is OUT": 3 are, then 2
    static void promise17_theRuleLeavesTwo() {
        ParcelRing x = ring(1, 1, 1);
        x.stop(0, 0, 0);
        x.rule(0, 1);
        row(of(0, 1, 2), x.go(1), x.childTold(0, 2), x.count(1));
        // It begins with NEXT of the one AT, who is OUT.
        row(of(1, 0, 2), x.go(1), x.childTold(1, 2), x.count(1));
        row(of(1, 0, 2), x.go(1), x.childTold(1, 2), x.count(1));
        row(of(1, 2, 0), hads(x));
    }

    // "more than 2 are IN": not counted are those who are OUT
    static void promise17_theRuleCountsThoseWhoAreIn() {
        ParcelRing x = ring(1, 1, 1, 1);
        x.stop(0, 0, 0);
        x.rule(0, 1);
        x.lays(1, 2, 1);
        x.lays(2, 2, 1);
        row(of(0, 0, 2), x.go(1), x.childTold(0, 2), x.count(1));
        x.lays(1, 2, 0);
        row(of(0, 1, 2), x.go(1), x.childTold(0, 2), x.count(1));
        ParcelRing y = ring(1);
        y.stop(0, 0, 0);
        y.rule(0, 1);
        row(of(0, 0), y.go(1), y.childTold(0, 2));
    }

    // "If THE RULE is 1": not if it is 0
    static void promise17_withoutTheRuleAllStayIn() {
        ParcelRing x = ring(1, 1, 1);
        x.stop(0, 1, 0);
        x.go(100);
        due(3, x.count(1));
    }

    // ---- odds

    // "of a CHILD": BAD, ahead of NO
    static void promise18_noSuchChildIsBad() {
        refused(BAD, x -> x.odds(-1), x -> x.odds(10), x -> x.odds(MIN), x -> x.odds(MAX));
        due(BAD, new ParcelRing().odds(0), ring(1).odds(1), ring(1).odds(-1));
    }

    // "NO: there are no STOPS"
    static void promise18_noWithoutStops() {
        due(NO, ring(1).odds(0));
    }

    // "NO: .. nobody is IN"
    static void promise18_noIfNobodyIsIn() {
        ParcelRing x = ring(1, 1);
        x.stop(0, 0, 0);
        allOut(x);
        due(NO, x.odds(0), x.odds(1));
        due(BAD, x.odds(2));
    }

    // "(of a STOP that is no LOT: 0 or 10)"
    static void promise18_tenOrNoneWithoutALot() {
        for (int kind : new int[] {0, 2, 4, 5}) {
            ParcelRing x = ring(1, 1, 1);
            x.stop(kind, 1, 1);
            int has = x.behind(1, 0);
            for (int i = 0; i < 3; i++) due(i == has ? 10 : 0, x.odds(i));
        }
    }

    // "with how many of x 0 .. 9": each of ten has it with one, an eleventh x there is not
    static void promise18_eachXOnce() {
        for (int kind : new int[] {1, 3}) {
            ParcelRing x = ring(1, 1, 1, 1, 1, 1, 1, 1, 1, 1);
            x.stop(kind, 0, 0);
            for (int i = 0; i < 10; i++) due(1, x.odds(i));
            // With 9 who hold it in turn x 0 and x 9 come to the same one.
            x.lays(9, 2, 1);
            for (int i = 0; i < 9; i++) due(i == (kind == 1 ? 0 : 1) ? 2 : 1, x.odds(i));
            due(0, x.odds(9));
        }
    }

    // One alone has it with all of them; one who is OUT with none.
    static void promise18_oneAloneHasItAlways() {
        ParcelRing x = ring(1, 1, 1);
        x.stop(1, 0, 0);
        x.lays(1, 2, 1);
        x.lays(2, 2, 1);
        row(of(10, 0, 0), x.odds(0), x.odds(1), x.odds(2));
        x.turns(0, 3);
        row(of(10, 0, 0), x.odds(0), x.odds(1), x.odds(2));
    }

    // "without the bound of TAKEN": of the turn that would come behind 9999
    static void promise18_at9999() {
        ParcelRing x = ring(1, 1, 1);
        takeUpTo(x, 9999);
        x.stop(0, 0, 0);
        x.stop(0, 1, 0);
        row(of(0, 10, 0), x.odds(0), x.odds(1), x.odds(2));
    }

    // "nothing changes": z neither
    static void promise18_nothingChanges() {
        thought(x -> x.odds(0), x -> x.odds(9));
        ParcelRing x = ring(1, 1);
        x.stop(1, 3, 0);
        x.odds(0);
        row(of(1, 0, 0), x.count(15), x.count(4), x.count(8));
    }
}
