/** Promises 8 to 14 at their edges: each method holds one sentence of the document, told above it. */
public final class BoundaryStopsTest extends Checks {
    public static void main(String[] args) throws Exception {
        run(BoundaryStopsTest.class, 8, 14);
    }

    /** One stop of each kind, with these seconds. */
    private static ParcelRing kinds(int seconds) {
        ParcelRing x = new ParcelRing();
        for (int kind = 0; kind < 6; kind++) x.stop(kind, seconds, 0);
        return x;
    }

    private static int[] allTold(ParcelRing x, int what) {
        int[] told = new int[x.count(2)];
        for (int i = 0; i < told.length; i++) told[i] = x.told(i, what);
        return told;
    }

    // ---- stop

    // "KINDS: 0 STOP .. 5 HELD"
    static void promise8_kindBelow0OrAbove5IsBad() {
        ParcelRing x = new ParcelRing();
        due(BAD, x.stop(-1, 0, 0), x.stop(6, 0, 0), x.stop(MIN, 0, 0), x.stop(MAX, 0, 0));
        due(0, x.count(2));
        row(of(0, 1, 0, 5), x.stop(0, 0, 0), x.stop(5, 0, 0), x.told(0, 0), x.told(1, 0));
    }

    // "SECONDS 0 .. 99"
    static void promise8_secondsBelow0OrAbove99AreBad() {
        ParcelRing x = new ParcelRing();
        due(BAD, x.stop(0, -1, 0), x.stop(0, 100, 0), x.stop(0, MIN, 0), x.stop(0, MAX, 0));
        due(0, x.count(2));
        row(of(0, 1, 0, 99), x.stop(0, 0, 0), x.stop(0, 99, 0), x.told(0, 1), x.told(1, 1));
    }

    // "a WISH 0 .. 9"
    static void promise8_wishBelow0OrAbove9IsBad() {
        ParcelRing x = new ParcelRing();
        due(BAD, x.stop(4, 0, -1), x.stop(4, 0, 10), x.stop(0, 0, MIN), x.stop(0, 0, MAX));
        due(0, x.count(2));
        row(of(0, 1, 0, 9), x.stop(4, 0, 0), x.stop(4, 0, 9), x.told(0, 2), x.told(1, 2));
    }

    // "(perhaps no CHILD)"
    static void promise8_aWishMayBeNoChild() {
        ParcelRing x = ring(1);
        row(of(0, 9), x.stop(4, 5, 9), x.told(0, 2));
    }

    // "STOPS, 10 at most, numbered from 0"
    static void promise8_theTenthComes() {
        ParcelRing x = new ParcelRing();
        for (int i = 0; i < 10; i++) due(i, x.stop(1, 90 + i, i));
        row(of(10, 1, 99, 9), x.count(2), x.told(9, 0), x.told(9, 1), x.told(9, 2));
    }

    // "FULL": the eleventh
    static void promise8_theEleventhIsFull() {
        refused(FULL, x -> x.stop(0, 0, 0), x -> x.stop(5, 99, 9));
    }

    // BAD; FULL
    static void promise8_badStandsAheadOfFull() {
        refused(BAD, x -> x.stop(-1, 0, 0), x -> x.stop(6, 0, 0), x -> x.stop(0, -1, 0), x -> x.stop(0, 100, 0),
            x -> x.stop(0, 0, -1), x -> x.stop(0, 0, 10));
    }

    // ---- told

    // "Of a STOP": there is no such one
    static void promise9_noSuchStopIsBad() {
        refused(BAD, x -> x.told(-1, 0), x -> x.told(10, 0), x -> x.told(MIN, 5), x -> x.told(MAX, 5));
        due(BAD, new ParcelRing().told(0, 0), kinds(0).told(6, 3));
    }

    // "what 0 .. 5"
    static void promise9_whatBelow0OrAbove5IsBad() {
        refused(BAD, x -> x.told(0, -1), x -> x.told(0, 6), x -> x.told(9, MIN), x -> x.told(9, MAX));
    }

    static void promise9_nothingChanges() {
        thought(x -> x.told(0, 0), x -> x.told(9, 2), x -> x.told(1, 3), x -> x.told(1, 4), x -> x.told(9, 5));
    }

    // "LASTS: STOP: what stop gives, held within 0 .. 999": below
    static void promise9_lastsAre0AtLeast() {
        ParcelRing x = kinds(5);
        text(x, "stop s-4");
        row(of(1, 1, 1, 1, 1, 0), allTold(x, 3));
        text(x, "stop s-5");
        row(of(0, 0, 0, 0, 0, 0), allTold(x, 3));
        text(x, "stop s-6");
        row(of(0, 0, 0, 0, 0, 0), allTold(x, 3));
        // "LOT: as STOP, and x": behind what is held
        row(of(0, 9, 0, 9, 0, 0), allTold(x, 4));
    }

    // "held within 0 .. 999": above; a LOT by 9 is above it, HELD is less 1 of what is held
    static void promise9_lastsAre999AtMost() {
        ParcelRing x = kinds(9);
        text(x, "stop s+989");
        row(of(998, 998, 998, 998, 998, 997), allTold(x, 3));
        text(x, "stop s+990");
        row(of(999, 999, 999, 999, 999, 998), allTold(x, 3));
        text(x, "stop s+991");
        row(of(999, 999, 999, 999, 999, 998), allTold(x, 3));
        row(of(999, 1008, 999, 1008, 999, 998), allTold(x, 4));
    }

    // "(without a TEXT: SECONDS)", the least and the greatest; "HELD: as STOP, less 1 (0 at least)"
    static void promise9_lastsWithoutAText() {
        row(of(0, 0, 0, 0, 0, 0), allTold(kinds(0), 3));
        row(of(0, 9, 0, 9, 0, 0), allTold(kinds(0), 4));
        row(of(1, 1, 1, 1, 1, 0), allTold(kinds(1), 3));
        row(of(2, 2, 2, 2, 2, 1), allTold(kinds(2), 3));
        row(of(99, 99, 99, 99, 99, 98), allTold(kinds(99), 3));
        row(of(99, 108, 99, 108, 99, 98), allTold(kinds(99), 4));
    }

    // "Ints wrap"
    static void promise9_whatWrapsIsHeldBehindTheWrap() {
        ParcelRing x = kinds(8);
        text(x, "stop s*4096*4096*16");
        due(0, x.told(0, 3));
        text(x, "stop s*4096*4096*16-1");
        due(999, x.told(0, 3));
    }

    // "p TAKEN, t TIME": as they are now, TAKEN up to 9999
    static void promise9_takenAndTimeAsTheyAre() {
        ParcelRing x = ring(1);
        x.stop(0, 7, 0);
        text(x, "stop p/11");
        takeUpTo(x, 9998);
        due(908, x.told(0, 3));
        x.go(100);
        due(909, x.told(0, 3));
        ParcelRing y = ring(1);
        y.stop(0, 7, 0);
        y.go(3);
        text(y, "stop t*10+p");
        due(213, y.told(0, 3));
    }

    // "WORTH", with the least seconds and with the most
    static void promise9_worthAtBothEnds() {
        row(of(0, 9, 99, 18, 94, 4), allTold(kinds(0), 5));
        row(of(99, 108, 0, 216, -5, 4), allTold(kinds(99), 5));
    }

    // "WORTH: STOP: SECONDS": not what it LASTS
    static void promise9_worthIsBySecondsWhateverTheTextGives() {
        ParcelRing x = kinds(10);
        text(x, "stop 500");
        row(of(10, 19, 89, 38, 84, 4), allTold(x, 5));
    }

    // ---- as

    // "BAD: stop, kind", both ahead of KIND
    static void promise10_noSuchStopOrKindIsBad() {
        refused(BAD, x -> x.as(-1, 0), x -> x.as(10, 0), x -> x.as(MIN, 5), x -> x.as(MAX, 5));
        refused(BAD, x -> x.as(0, -1), x -> x.as(0, 6), x -> x.as(0, MIN), x -> x.as(0, MAX));
        due(BAD, new ParcelRing().as(0, 0));
    }

    // "it is not of that KIND": one above it is not of a kind under it, nor is one beside it
    static void promise10_oneAboveOrBesideIsNotOfTheKind() {
        ParcelRing x = kinds(7);
        due(KIND, x.as(0, 1), x.as(0, 2), x.as(0, 3), x.as(0, 4), x.as(0, 5), x.as(1, 3), x.as(2, 4));
        due(KIND, x.as(1, 2), x.as(1, 4), x.as(1, 5), x.as(2, 1), x.as(2, 3), x.as(2, 5));
        due(KIND, x.as(3, 2), x.as(3, 4), x.as(3, 5), x.as(4, 1), x.as(4, 3), x.as(4, 5));
        due(KIND, x.as(5, 1), x.as(5, 2), x.as(5, 3), x.as(5, 4));
    }

    // "nor of one under it": "all are STOPS", SNATCHED two under it
    static void promise10_oneUnderItIs() {
        ParcelRing x = kinds(7);
        due(7, x.as(0, 0), x.as(1, 0), x.as(2, 0), x.as(3, 0), x.as(4, 0), x.as(5, 0));
        due(7, x.as(1, 1), x.as(3, 1), x.as(2, 2), x.as(4, 2), x.as(3, 3), x.as(4, 4), x.as(5, 5));
    }

    static void promise10_kindChangesNothing() {
        refused(KIND, x -> x.as(0, 1), x -> x.as(5, 1));
        thought(x -> x.as(9, 0), x -> x.as(1, 1));
    }

    // ---- turns

    static void promise11_noSuchStopOrKindIsBad() {
        refused(BAD, x -> x.turns(-1, 0), x -> x.turns(10, 0), x -> x.turns(MIN, 0), x -> x.turns(MAX, 0));
        refused(BAD, x -> x.turns(0, -1), x -> x.turns(0, 6), x -> x.turns(9, MIN), x -> x.turns(9, MAX));
        due(BAD, new ParcelRing().turns(0, 0));
    }

    // "A STOP is of another KIND from now on: what it was", the same kind again, the first and the last one
    static void promise11_toTheEndsAndToTheSame() {
        ParcelRing x = full();
        row(of(0, 5, 5), x.turns(0, 5), x.turns(0, 5), x.turns(0, 0));
        row(of(3, 0), x.turns(9, 0), x.turns(9, 3));
        // What it has besides stays.
        row(of(3, 19, 9), x.told(9, 0), x.told(9, 1), x.told(9, 2));
        row(of(2, 18, 8), x.told(8, 0), x.told(8, 1), x.told(8, 2));
    }

    // ---- set

    static void promise12_noSuchStopIsBad() {
        refused(BAD, x -> x.set(-1, 1, 0), x -> x.set(10, 1, 0), x -> x.set(MIN, 2, 0), x -> x.set(MAX, 2, 0));
        due(BAD, new ParcelRing().set(0, 1, 0));
    }

    // "SECONDS (what 1), WISH (2)": 0 and 3 are none
    static void promise12_whatBelow1OrAbove2IsBad() {
        refused(BAD, x -> x.set(0, 0, 0), x -> x.set(0, 3, 0), x -> x.set(0, -1, 0), x -> x.set(0, MIN, 0), x -> x.set(0, MAX, 0));
    }

    static void promise12_secondsAre0To99() {
        refused(BAD, x -> x.set(9, 1, -1), x -> x.set(9, 1, 100), x -> x.set(9, 1, MIN), x -> x.set(9, 1, MAX));
        ParcelRing x = full();
        row(of(19, 0, 99, 99), x.set(9, 1, 0), x.set(9, 1, 99), x.set(9, 1, 99), x.told(9, 1));
        row(of(3, 9), x.told(9, 0), x.told(9, 2));
    }

    static void promise12_aWishIs0To9() {
        refused(BAD, x -> x.set(9, 2, -1), x -> x.set(9, 2, 10), x -> x.set(9, 2, MIN), x -> x.set(9, 2, MAX));
        ParcelRing x = full();
        row(of(9, 0, 9, 9), x.set(9, 2, 0), x.set(9, 2, 9), x.set(9, 2, 9), x.told(9, 2));
        row(of(3, 19), x.told(9, 0), x.told(9, 1));
    }

    // ---- deal

    // "n (1 .. 10)"
    static void promise13_fewerThan1OrMoreThan10IsBad() {
        ParcelRing x = new ParcelRing();
        due(BAD, x.deal(0), x.deal(-1), x.deal(11), x.deal(MIN), x.deal(MAX));
        row(of(0, 1), x.count(2), x.count(15));
        refused(BAD, y -> y.deal(0), y -> y.deal(11));
    }

    // The least and the most.
    static void promise13_oneOrTenCome() {
        ParcelRing x = new ParcelRing();
        row(of(1, 1, drawnOn(1, 3)), x.deal(1), x.count(2), x.count(15));
        ParcelRing y = new ParcelRing();
        row(of(10, 10, drawnOn(1, 30)), y.deal(10), y.count(2), y.count(15));
    }

    // "as many as there is room for (no draws for others)"
    static void promise13_asManyAsThereIsRoomFor() {
        ParcelRing x = new ParcelRing();
        for (int i = 0; i < 9; i++) x.stop(0, 0, 0);
        row(of(1, 10, drawnOn(1, 3)), x.deal(2), x.count(2), x.count(15));
        int[] d = drawn(1, 3);
        row(of(d[0] % 6, d[1] % 60, d[2] % 10), x.told(9, 0), x.told(9, 1), x.told(9, 2));
    }

    // No room at all: none come, and nothing changes (it is not refused).
    static void promise13_noneComeIfThereIsNoRoom() {
        refused(0, x -> x.deal(1), x -> x.deal(10));
    }

    // "it gives z >>> 8": a z below 0 gives a draw that is not
    static void promise13_aZBelow0() {
        for (int z : new int[] {MIN, -1, MAX, 0, 12345, -1000000001}) {
            ParcelRing x = new ParcelRing();
            x.seed(z);
            due(10, x.deal(10));
            int[] d = drawn(z, 30);
            for (int i = 0; i < 10; i++) {
                row(of(d[3 * i] % 6, d[3 * i + 1] % 60, d[3 * i + 2] % 10), x.told(i, 0), x.told(i, 1), x.told(i, 2));
            }
        }
    }

    // ---- seed

    // "z becomes v: what it was": any number, also one that stands for a refusal
    static void promise14_anyNumber() {
        ParcelRing x = new ParcelRing();
        row(of(1, MIN, MAX, 0, -1, BAD, NONE), x.seed(MIN), x.seed(MAX), x.seed(0), x.seed(-1), x.seed(BAD), x.seed(NONE), x.seed(5));
        due(5, x.count(15), x.seed(5));
    }

    // "z * 1103515245 + 12345 (an int)": it wraps round
    static void promise14_aDrawWraps() {
        ParcelRing x = new ParcelRing();
        x.seed(MAX);
        x.deal(1);
        int z = MAX;
        for (int i = 0; i < 3; i++) z = (int) (z * 1103515245L + 12345L);
        due(z, x.count(15));
    }
}
