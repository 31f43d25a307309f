/** Promises 33 to 41 at their edges: each method holds one sentence of the document, told above it. */
public final class BoundarySheetsTest extends Checks {
    public static void main(String[] args) throws Exception {
        run(BoundarySheetsTest.class, 33, 41);
    }

    /** The places of a sheet from 0 on, so many (slot 3 is used for it). */
    private static int[] places(ParcelRing x, int sheet, int many) {
        x.lay(3, 2, sheet);
        int[] places = new int[many];
        for (int i = 0; i < many; i++) places[i] = x.item(3, i);
        return places;
    }

    private static ParcelRing shorts(int... numbers) {
        ParcelRing x = new ParcelRing();
        x.sheet(0, 0, numbers.length);
        for (int i = 0; i < numbers.length; i++) x.mark(0, i, numbers[i]);
        return x;
    }

    // ---- sheet

    // "SHEETS 0 .. 3"
    static void promise33_noSuchSheetIsBad() {
        refused(BAD, x -> x.sheet(-1, 0, 1), x -> x.sheet(4, 0, 1), x -> x.sheet(MIN, 1, 1), x -> x.sheet(MAX, -1, 1));
        ParcelRing x = new ParcelRing();
        due(1, x.sheet(0, 0, 1), x.sheet(3, 0, 1));
    }

    // "shorts (sort 0) or floats (1 ..)", "sort -1: MISSING"
    static void promise33_noSuchSortIsBad() {
        refused(BAD, x -> x.sheet(0, -2, 1), x -> x.sheet(0, 2, 1), x -> x.sheet(3, MIN, 1), x -> x.sheet(3, MAX, 1));
    }

    // "n above 24"
    static void promise33_above24PlacesIsBad() {
        refused(BAD, x -> x.sheet(0, 0, 25), x -> x.sheet(3, 1, 25), x -> x.sheet(0, 0, MAX));
    }

    // "with 0 to 24 places": the fewest and the most
    static void promise33_0And24Places() {
        ParcelRing x = new ParcelRing();
        for (int sort = 0; sort < 2; sort++) {
            due(24, x.sheet(sort, sort, 24));
            due(1, x.mark(sort, 23, 1));
            due(INDEX, x.mark(sort, 24, 1));
            due(0, x.sheet(2, sort, 0));
            due(INDEX, x.mark(2, 0, 1));
        }
    }

    // "SIZE: a number of places is below 0"
    static void promise33_below0PlacesIsSize() {
        refused(SIZE, x -> x.sheet(0, 0, -1), x -> x.sheet(3, 1, -1), x -> x.sheet(1, 1, MIN));
    }

    // "BAD: sheet, sort, ..; SIZE"
    static void promise33_badStandsAheadOfSize() {
        refused(BAD, x -> x.sheet(4, 0, -1), x -> x.sheet(-1, 1, MIN), x -> x.sheet(0, 2, -1), x -> x.sheet(0, -2, MIN));
    }

    // "(sort -1: MISSING, n any): n (0)"
    static void promise33_missingWithAnyN() {
        for (int n : new int[] {0, 1, 24, 25, -1, MIN, MAX}) {
            ParcelRing x = full();
            due(0, x.sheet(0, -1, n), x.sheet(3, -1, n));
            due(NOTHING, x.reads(0), x.mark(0, 0, 1), x.reads(3));
        }
        refused(BAD, x -> x.sheet(4, -1, 0), x -> x.sheet(-1, -1, 0));
    }

    // "all 0": what stood there is gone, of another sort and length too
    static void promise33_allAre0() {
        ParcelRing x = full();
        due(6, x.sheet(0, 0, 6));
        row(of(0, 0, 0, 0, 0, 0, INDEX), places(x, 0, 7));
        due(7, x.sheet(1, 0, 7));
        row(of(0, 0, 0, 0, 0, 0, 0, INDEX), places(x, 1, 8));
        x.sheet(1, -1, 0);
        due(2, x.sheet(1, 1, 2));
        row(of(0, 0, INDEX), places(x, 1, 3));
    }

    // "a row of its own": a slot keeps what it has
    static void promise33_aSlotKeepsItsRow() {
        ParcelRing x = full();
        x.sheet(0, 1, 2);
        row(of(40, 35, INDEX), x.item(1, 0), x.item(1, 5), x.item(1, 6));
    }

    // ---- mark

    static void promise34_noSuchSheetIsBad() {
        refused(BAD, x -> x.mark(-1, 0, 0), x -> x.mark(4, 0, 0), x -> x.mark(MIN, -1, NONE), x -> x.mark(MAX, 99, MIN));
    }

    // NOTHING, ahead of INDEX
    static void promise34_aMissingSheetIsNothing() {
        refused(NOTHING, x -> x.mark(3, 0, 0), x -> x.mark(3, -1, 0), x -> x.mark(3, 24, NONE), x -> x.mark(3, 0, 100000));
    }

    // "INDEX: there is no such place"
    static void promise34_noSuchPlaceIsIndex() {
        refused(INDEX, x -> x.mark(0, -1, 0), x -> x.mark(0, 6, 0), x -> x.mark(0, MIN, 0), x -> x.mark(0, MAX, 0),
            x -> x.mark(1, -1, 0), x -> x.mark(1, 6, 0), x -> x.mark(2, 0, 0), x -> x.mark(0, 24, 0));
    }

    // INDEX; KIND; BAD: v
    static void promise34_indexStandsAheadOfKindAndBad() {
        refused(INDEX, x -> x.mark(0, 6, NONE), x -> x.mark(1, 6, 100000), x -> x.mark(1, -1, MIN), x -> x.mark(2, 0, NONE));
    }

    // "KIND: NONE in a row of shorts"
    static void promise34_noneInShortsIsKind() {
        refused(KIND, x -> x.mark(0, 0, NONE), x -> x.mark(0, 5, NONE));
        // The numbers beside it have lowest bits like all others.
        ParcelRing x = shorts(NONE - 1, NONE + 1);
        row(of((short) (NONE - 1), (short) (NONE + 1)), places(x, 0, 2));
    }

    // "of shorts its lowest 16 bits"
    static void promise34_shortsWrap() {
        ParcelRing x = shorts(32767, 32768, 65535, 65536, -32768, -32769, MIN, MAX, -1, 65537);
        row(of(32767, -32768, -1, 0, -32768, 32767, 0, -1, -1, 1), places(x, 0, 10));
    }

    // "of floats v, -99999 .. 99999"
    static void promise34_floatsBetweenTheirEnds() {
        ParcelRing x = full();
        due(1, x.mark(1, 0, 99999), x.mark(1, 5, -99999));
        row(of(99999, -51, KIND, -53, -54, -99999), places(x, 1, 6));
    }

    // "BAD: v of floats"
    static void promise34_floatsBeyondTheirEndsAreBad() {
        refused(BAD, x -> x.mark(1, 0, 100000), x -> x.mark(1, 0, -100000), x -> x.mark(1, 5, MIN), x -> x.mark(1, 5, MAX),
            x -> x.mark(1, 0, NONE - 1), x -> x.mark(1, 0, NONE + 1), x -> x.mark(1, 2, BAD));
    }

    // "NONE: NO NUMBER": and a number again
    static void promise34_noNumberAndANumberAgain() {
        ParcelRing x = full();
        due(1, x.mark(1, 0, NONE), x.mark(1, 5, NONE), x.mark(1, 2, 8));
        row(of(KIND, -51, 8, -53, -54, KIND), places(x, 1, 6));
        due(1, x.mark(1, 0, 0));
        due(0, places(x, 1, 1));
    }

    // Shorts may be beyond the ends of floats' numbers and the other way round: each by its own sort.
    static void promise34_eachSortByItself() {
        ParcelRing x = shorts(0);
        due(1, x.mark(0, 0, 100000));
        due(100000 - 131072, places(x, 0, 1));
        x.sheet(1, 1, 1);
        due(1, x.mark(1, 0, 32768));
        due(32768, places(x, 1, 1));
    }

    // ---- pour

    static void promise35_noSuchSheetIsBad() {
        refused(BAD, x -> x.pour(-1), x -> x.pour(4), x -> x.pour(MIN), x -> x.pour(MAX));
    }

    static void promise35_aMissingSheetIsNothing() {
        refused(NOTHING, x -> x.pour(3));
    }

    // "each held within 0 .. 99"
    static void promise35_secondsAreHeldWithin0And99() {
        ParcelRing x = shorts(-1, 0, 1, 98, 99, 100, -32768, 32767);
        for (int i = 0; i < 8; i++) x.stop(0, 50, 0);
        due(8, x.pour(0));
        row(of(0, 0, 1, 98, 99, 99, 0, 99), x.told(0, 1), x.told(1, 1), x.told(2, 1), x.told(3, 1), x.told(4, 1), x.told(5, 1), x.told(6, 1), x.told(7, 1));
    }

    // The same with the ends of floats.
    static void promise35_floatsAreHeldToo() {
        ParcelRing x = new ParcelRing();
        x.stop(0, 50, 0);
        x.stop(0, 50, 0);
        x.sheet(0, 1, 2);
        x.mark(0, 0, 99999);
        x.mark(0, 1, -99999);
        row(of(2, 99, 0), x.pour(0), x.told(0, 1), x.told(1, 1));
    }

    // "NO NUMBER .. : they stay"
    static void promise35_noNumberLeavesThem() {
        ParcelRing x = new ParcelRing();
        for (int i = 0; i < 3; i++) x.stop(0, 50, 0);
        x.sheet(0, 1, 3);
        x.mark(0, 0, NONE);
        x.mark(0, 2, NONE);
        row(of(1, 50, 0, 50), x.pour(0), x.told(0, 1), x.told(1, 1), x.told(2, 1));
    }

    // "and beyond the SHEET: they stay"
    static void promise35_beyondTheSheetTheyStay() {
        ParcelRing x = shorts(7, 8);
        for (int i = 0; i < 10; i++) x.stop(0, 50, 0);
        row(of(2, 7, 8, 50, 50), x.pour(0), x.told(0, 1), x.told(1, 1), x.told(2, 1), x.told(9, 1));
        x.sheet(1, 0, 0);
        row(of(0, 7), x.pour(1), x.told(0, 1));
    }

    // A SHEET longer than there are STOPS, and no STOPS at all.
    static void promise35_morePlacesThanStops() {
        ParcelRing x = shorts(1, 2, 3, 4, 5, 6, 7, 8, 9, 10, 11, 12, 13, 14, 15, 16, 17, 18, 19, 20, 21, 22, 23, 24);
        row(of(0, 0), x.pour(0), x.count(2));
        for (int i = 0; i < 10; i++) x.stop(0, 50, 0);
        row(of(10, 1, 10, 10), x.pour(0), x.told(0, 1), x.told(9, 1), x.count(2));
    }

    // "how many are otherwise then": those that were so before are not counted, behind holding within
    static void promise35_thoseThatWereSoAreNotCounted() {
        ParcelRing x = shorts(50, 51, 200, -200);
        x.stop(0, 50, 0);
        x.stop(0, 50, 0);
        x.stop(0, 99, 0);
        x.stop(0, 0, 0);
        row(of(1, 0), x.pour(0), x.pour(0));
    }

    // KIND and WISH stay.
    static void promise35_kindAndWishStay() {
        ParcelRing x = shorts(5);
        x.stop(4, 50, 9);
        x.pour(0);
        row(of(4, 5, 9), x.told(0, 0), x.told(0, 1), x.told(0, 2));
    }

    // ---- reads

    static void promise36_noSuchSheetIsBad() {
        refused(BAD, x -> x.reads(-1), x -> x.reads(4), x -> x.reads(MIN), x -> x.reads(MAX));
    }

    static void promise36_aMissingSheetIsNothing() {
        refused(NOTHING, x -> x.reads(3));
    }

    // "NONE: there is none": no places, no numbers, all right
    static void promise36_none() {
        refused(NONE, x -> x.reads(2));
        ParcelRing x = shorts(0, 99);
        x.child(1);
        x.child(1);
        x.lays(1, 1, 99);
        due(NONE, x.reads(0));
        x.sheet(1, 1, 24);
        for (int i = 0; i < 24; i++) x.mark(1, i, NONE);
        due(NONE, x.reads(1));
    }

    // "The first place": the first, the last, one more or one less
    static void promise36_theFirstPlace() {
        ParcelRing x = shorts(1, 1, 1);
        for (int i = 0; i < 3; i++) {
            x.child(1);
            x.lays(i, 1, 1);
        }
        due(NONE, x.reads(0));
        x.lays(2, 1, 2);
        due(2, x.reads(0));
        x.lays(1, 1, 0);
        due(1, x.reads(0));
        x.mark(0, 0, -1);
        due(0, x.reads(0));
    }

    // "(of numbers alone)"
    static void promise36_noNumberIsPassedOver() {
        ParcelRing x = ring(1, 1, 1);
        for (int i = 0; i < 3; i++) x.lays(i, 1, 5);
        x.sheet(0, 1, 3);
        x.mark(0, 0, NONE);
        x.mark(0, 1, 5);
        x.mark(0, 2, 6);
        due(2, x.reads(0));
        x.mark(0, 2, NONE);
        due(NONE, x.reads(0));
    }

    // "(of places that are no CHILD all numbers are not)": 0 too, and of HAD that was ahead of an image
    static void promise36_placesThatAreNoChild() {
        due(0, shorts(0).reads(0));
        ParcelRing x = shorts(0, 0, 0);
        x.child(1);
        x.child(1);
        due(2, x.reads(0));
        x.keep();
        x.child(1);
        due(NONE, x.reads(0));
        x.back();
        due(2, x.reads(0));
    }

    // A place behind the tenth child.
    static void promise36_thePlace10() {
        ParcelRing x = ring(1, 1, 1, 1, 1, 1, 1, 1, 1, 1);
        x.sheet(0, 0, 10);
        due(NONE, x.reads(0));
        x.sheet(0, 0, 11);
        due(10, x.reads(0));
        x.sheet(0, 1, 24);
        for (int i = 0; i < 23; i++) x.mark(0, i, NONE);
        due(23, x.reads(0));
    }

    // Shorts are read as what they are behind the wrap.
    static void promise36_behindTheWrap() {
        ParcelRing x = shorts(65536 + 7, 7);
        x.child(1);
        x.child(1);
        x.lays(0, 1, 7);
        x.lays(1, 1, 7);
        due(NONE, x.reads(0));
    }

    static void promise36_nothingChanges() {
        thought(x -> x.reads(0), x -> x.reads(1), x -> x.reads(2));
    }

    // ---- copy

    // "BAD": from, to; ahead of NOTHING
    static void promise37_noSuchSheetIsBad() {
        refused(BAD, x -> x.copy(-1, 0, 0, 0, 1), x -> x.copy(4, 0, 0, 0, 1), x -> x.copy(0, 0, -1, 0, 1), x -> x.copy(0, 0, 4, 0, 1),
            x -> x.copy(3, 0, 4, 0, 1), x -> x.copy(4, 0, 3, 0, 1), x -> x.copy(MIN, 0, 0, 0, 0), x -> x.copy(0, 0, MAX, 0, 0));
    }

    // NOTHING: one of the two, or both; ahead of KIND and INDEX
    static void promise37_aMissingSheetIsNothing() {
        refused(NOTHING, x -> x.copy(3, 0, 0, 0, 0), x -> x.copy(0, 0, 3, 0, 0), x -> x.copy(3, 0, 3, 0, 0),
            x -> x.copy(1, 0, 3, 0, 99), x -> x.copy(3, -1, 0, -1, -1), x -> x.copy(3, 9, 1, 0, 1));
    }

    // "KIND: they are not of one sort": also if none were to come; ahead of INDEX
    static void promise37_twoSortsAreKind() {
        refused(KIND, x -> x.copy(0, 0, 1, 0, 1), x -> x.copy(1, 0, 0, 0, 1), x -> x.copy(1, 0, 2, 0, 0), x -> x.copy(0, 99, 1, 0, 1),
            x -> x.copy(1, 0, 0, 0, -1), x -> x.copy(0, 0, 1, 0, MAX));
    }

    // "INDEX": beyond the end of the one it comes from
    static void promise37_beyondTheEndOfFrom() {
        refused(INDEX, x -> x.copy(0, 0, 0, 0, 7), x -> x.copy(0, 6, 0, 0, 1), x -> x.copy(0, 5, 0, 0, 2), x -> x.copy(2, 0, 0, 0, 1),
            x -> x.copy(0, 7, 0, 0, 0), x -> x.copy(0, MAX, 0, 0, 1), x -> x.copy(0, 1, 0, 0, MAX));
    }

    // Beyond the end of the one it comes to.
    static void promise37_beyondTheEndOfTo() {
        refused(INDEX, x -> x.copy(0, 0, 0, 6, 1), x -> x.copy(0, 0, 0, 5, 2), x -> x.copy(0, 0, 2, 0, 1), x -> x.copy(0, 0, 2, 1, 0),
            x -> x.copy(0, 0, 0, 7, 0), x -> x.copy(0, 0, 0, MAX, 1), x -> x.copy(0, 0, 0, 1, MAX));
    }

    // Below 0: a place, or how many.
    static void promise37_below0IsIndex() {
        refused(INDEX, x -> x.copy(0, -1, 0, 0, 1), x -> x.copy(0, 0, 0, -1, 1), x -> x.copy(0, 0, 0, 0, -1), x -> x.copy(0, -1, 0, 0, 0),
            x -> x.copy(0, 0, 0, -1, 0), x -> x.copy(0, MIN, 0, 0, 1), x -> x.copy(0, 0, 0, MIN, 1), x -> x.copy(0, 0, 0, 0, MIN),
            x -> x.copy(0, 6, 0, 6, -1), x -> x.copy(0, MIN, 0, MIN, MIN));
    }

    // None come, right up to the end, and from a SHEET without places.
    static void promise37_noneCome() {
        refused(0, x -> x.copy(0, 0, 0, 0, 0), x -> x.copy(0, 6, 0, 6, 0), x -> x.copy(2, 0, 0, 6, 0), x -> x.copy(0, 6, 2, 0, 0), x -> x.copy(2, 0, 2, 0, 0));
    }

    // All of them, up to the end of both.
    static void promise37_allCome() {
        ParcelRing x = full();
        x.sheet(2, 0, 7);
        row(of(6, 6), x.copy(0, 0, 2, 0, 6), x.copy(0, 0, 2, 1, 6));
        row(of(40, 40, 39, 38, 37, 36, 35, INDEX), places(x, 2, 8));
        // What it came from is as it was.
        row(of(40, 39, 38, 37, 36, 35, INDEX), places(x, 0, 7));
        x.sheet(2, 0, 24);
        x.sheet(3, 0, 24);
        due(24, x.copy(2, 0, 3, 0, 24));
        due(1, x.copy(0, 5, 3, 23, 1));
        due(35, places(x, 3, 24)[23]);
    }

    // "or the same", "as they were": over one another, in both directions
    static void promise37_overOneAnother() {
        ParcelRing x = full();
        due(5, x.copy(0, 0, 0, 1, 5));
        row(of(40, 40, 39, 38, 37, 36), places(x, 0, 6));
        due(5, x.copy(0, 1, 0, 0, 5));
        row(of(40, 39, 38, 37, 36, 36), places(x, 0, 6));
        due(6, x.copy(0, 0, 0, 0, 6));
        row(of(40, 39, 38, 37, 36, 36), places(x, 0, 6));
    }

    // NO NUMBER comes too.
    static void promise37_noNumberComes() {
        ParcelRing x = full();
        due(2, x.copy(1, 2, 1, 0, 2));
        row(of(KIND, -53, KIND, -53, -54, -55), places(x, 1, 6));
    }

    // ---- lay

    // "SLOTS 0 .. 4"
    static void promise38_noSuchSlotIsBad() {
        refused(BAD, x -> x.lay(-1, 0, 0), x -> x.lay(5, 0, 0), x -> x.lay(MIN, 3, 0), x -> x.lay(MAX, 2, 3));
        ParcelRing x = new ParcelRing();
        row(of(0, 0, 3, 3), x.lay(0, 3, 1), x.lay(4, 3, 1), x.lay(0, 3, 1), x.lay(4, 3, 1));
    }

    // "thing 0 .. 3"
    static void promise38_noSuchThingIsBad() {
        refused(BAD, x -> x.lay(0, -1, 0), x -> x.lay(0, 4, 0), x -> x.lay(3, MIN, 0), x -> x.lay(3, MAX, 0));
    }

    // "1 STOP k": there is none such
    static void promise38_noSuchStopIsBad() {
        refused(BAD, x -> x.lay(0, 1, -1), x -> x.lay(0, 1, 10), x -> x.lay(3, 1, MIN), x -> x.lay(3, 1, MAX));
        due(BAD, new ParcelRing().lay(0, 1, 0));
    }

    // "2 SHEET k": there is none such; ahead of NOTHING
    static void promise38_noSuchSheetIsBad() {
        refused(BAD, x -> x.lay(0, 2, -1), x -> x.lay(0, 2, 4), x -> x.lay(3, 2, MIN), x -> x.lay(3, 2, MAX));
    }

    // "NOTHING: that SHEET is MISSING": what the SLOT held it holds on
    static void promise38_aMissingSheetIsNothing() {
        refused(NOTHING, x -> x.lay(0, 2, 3), x -> x.lay(1, 2, 3), x -> x.lay(2, 2, 3), x -> x.lay(3, 2, 3));
    }

    // "0 nothing", "3 the number k": any k
    static void promise38_anyKForNothingAndForANumber() {
        for (int k : new int[] {MIN, MAX, -1, 0, 10, NONE, BAD}) {
            ParcelRing x = full();
            due(1, x.lay(0, 3, k));
            due(k % 1000, x.rest(0, 1000));
            due(3, x.lay(0, 0, k));
            due(NOTHING, x.rest(0, 1));
            due(0, x.lay(0, 0, k));
        }
    }

    // "what it held (0 .. 3)"
    static void promise38_whatItHeld() {
        ParcelRing x = full();
        row(of(1, 2, 3, 0, 2), x.lay(0, 0, 0), x.lay(1, 0, 0), x.lay(2, 0, 0), x.lay(3, 0, 0), x.lay(4, 0, 0));
        due(0, x.lay(0, 1, 9), x.lay(1, 2, 2), x.lay(2, 3, 0), x.lay(3, 0, 0));
        row(of(1, 2, 3, 0), x.lay(0, 1, 0), x.lay(1, 2, 2), x.lay(2, 3, 0), x.lay(3, 0, 0));
    }

    // "a STOP (as it is then, for good)"
    static void promise38_aStopForGood() {
        ParcelRing x = full();
        due(20, x.ask(0, 1));
        x.turns(1, 2);
        x.set(1, 1, 99);
        x.back();
        due(BAD, x.told(1, 0));
        due(20, x.ask(0, 0), x.ask(0, 1));
    }

    // "a SHEET (a row of its own, as it was then)": without places too
    static void promise38_aRowOfItsOwn() {
        ParcelRing x = full();
        x.mark(0, 0, 1);
        x.copy(0, 0, 0, 1, 5);
        x.sheet(0, -1, 0);
        row(of(40, 39, 35, INDEX), x.item(1, 0), x.item(1, 1), x.item(1, 5), x.item(1, 6));
        due(0, x.lay(3, 2, 2));
        due(INDEX, x.item(3, 0));
        x.sheet(2, 0, 3);
        due(INDEX, x.item(3, 0));
    }

    // Two slots that hold the same thing do not share it.
    static void promise38_slotsStandApart() {
        ParcelRing x = full();
        x.lay(3, 2, 0);
        x.mark(0, 0, 9);
        x.lay(1, 2, 0);
        row(of(40, 9), x.item(3, 0), x.item(1, 0));
        x.lay(1, 0, 0);
        row(of(40, NOTHING), x.item(3, 0), x.item(1, 0));
    }

    // ---- ask

    // "BAD": slot, kind (0 .. 5); ahead of NOTHING and KIND
    static void promise39_noSuchSlotOrKindIsBad() {
        refused(BAD, x -> x.ask(-1, 0), x -> x.ask(5, 0), x -> x.ask(MIN, 0), x -> x.ask(MAX, 0));
        refused(BAD, x -> x.ask(0, -1), x -> x.ask(0, 6), x -> x.ask(3, -1), x -> x.ask(3, 6), x -> x.ask(1, MIN), x -> x.ask(2, MAX));
    }

    // "NOTHING: .. a SLOT holds nothing"
    static void promise39_aSlotWithNothing() {
        refused(NOTHING, x -> x.ask(3, 0), x -> x.ask(3, 5));
    }

    // "KIND: it is no STOP": of KIND 0 neither
    static void promise39_noStopIsKind() {
        refused(KIND, x -> x.ask(1, 0), x -> x.ask(2, 0), x -> x.ask(4, 0), x -> x.ask(1, 5));
    }

    // "or not of that KIND, nor of one under it"
    static void promise39_notOfTheKind() {
        int[][] worths = {{0}, {0, 1}, {0, 2}, {0, 1, 3}, {0, 2, 4}, {0, 5}};
        int[] worth = {99, 108, 0, 216, -5, 4};
        for (int kind = 0; kind < 6; kind++) {
            ParcelRing x = new ParcelRing();
            x.stop(kind, 99, 0);
            x.lay(4, 1, 0);
            int[] want = {KIND, KIND, KIND, KIND, KIND, KIND};
            for (int of : worths[kind]) want[of] = worth[kind];
            row(want, x.ask(4, 0), x.ask(4, 1), x.ask(4, 2), x.ask(4, 3), x.ask(4, 4), x.ask(4, 5));
        }
    }

    // It is taken for one of a KIND, but WORTH is its own.
    static void promise39_worthIsItsOwn() {
        ParcelRing x = new ParcelRing();
        x.stop(3, 0, 0);
        x.lay(0, 1, 0);
        due(18, x.ask(0, 0), x.ask(0, 1), x.ask(0, 3));
    }

    static void promise39_nothingChanges() {
        thought(x -> x.ask(0, 0), x -> x.ask(0, 1));
        refused(KIND, x -> x.ask(0, 3), x -> x.ask(0, 2));
    }

    // ---- item

    static void promise40_noSuchSlotIsBad() {
        refused(BAD, x -> x.item(-1, 0), x -> x.item(5, 0), x -> x.item(MIN, -1), x -> x.item(MAX, 99));
    }

    // NOTHING, ahead of INDEX
    static void promise40_aSlotWithNothing() {
        refused(NOTHING, x -> x.item(3, 0), x -> x.item(3, -1), x -> x.item(3, MAX));
    }

    // "KIND: it is no SHEET": ahead of INDEX
    static void promise40_noSheetIsKind() {
        refused(KIND, x -> x.item(0, 0), x -> x.item(2, 0), x -> x.item(0, -1), x -> x.item(2, MAX));
    }

    // "INDEX"
    static void promise40_noSuchPlaceIsIndex() {
        refused(INDEX, x -> x.item(1, -1), x -> x.item(1, 6), x -> x.item(4, 6), x -> x.item(4, MIN), x -> x.item(4, MAX), x -> x.item(1, 24));
    }

    // "KIND: NO NUMBER"
    static void promise40_noNumberIsKind() {
        refused(KIND, x -> x.item(4, 2));
    }

    // The first place and the last, of 24 too.
    static void promise40_theFirstAndTheLast() {
        ParcelRing x = full();
        row(of(40, 35, -50, -55), x.item(1, 0), x.item(1, 5), x.item(4, 0), x.item(4, 5));
        x.sheet(0, 1, 24);
        x.mark(0, 23, -99999);
        x.lay(3, 2, 0);
        row(of(0, -99999, INDEX), x.item(3, 0), x.item(3, 23), x.item(3, 24));
    }

    // A shorter row behind a longer one ends where it ends.
    static void promise40_aShorterRowBehindALongerOne() {
        ParcelRing x = full();
        x.sheet(3, 0, 1);
        x.lay(1, 2, 3);
        row(of(0, INDEX), x.item(1, 0), x.item(1, 1));
    }

    static void promise40_nothingChanges() {
        thought(x -> x.item(1, 0), x -> x.item(4, 5));
    }

    // ---- rest

    static void promise41_noSuchSlotIsBad() {
        refused(BAD, x -> x.rest(-1, 1), x -> x.rest(5, 1), x -> x.rest(MIN, 0), x -> x.rest(MAX, 0));
    }

    // NOTHING, ahead of NO
    static void promise41_aSlotWithNothing() {
        refused(NOTHING, x -> x.rest(3, 1), x -> x.rest(3, 0));
    }

    // "KIND: it is no number": ahead of NO
    static void promise41_noNumberIsKind() {
        refused(KIND, x -> x.rest(0, 1), x -> x.rest(1, 1), x -> x.rest(4, 1), x -> x.rest(0, 0), x -> x.rest(1, 0));
    }

    // "NO: n is 0"
    static void promise41_by0IsNo() {
        refused(NO, x -> x.rest(2, 0));
    }

    // "/ cuts towards 0": the rest has the sign of the number
    static void promise41_theSignOfTheNumber() {
        ParcelRing x = new ParcelRing();
        x.lay(0, 3, -7);
        row(of(-1, -1, 0, -7, -7), x.rest(0, 3), x.rest(0, -3), x.rest(0, 7), x.rest(0, 8), x.rest(0, MIN));
        x.lay(0, 3, 7);
        row(of(1, 1, 0, 7, 7), x.rest(0, 3), x.rest(0, -3), x.rest(0, -7), x.rest(0, -8), x.rest(0, MIN));
    }

    // By 1 and by -1, of the least number too.
    static void promise41_by1AndByMinus1() {
        ParcelRing x = new ParcelRing();
        for (int k : new int[] {MIN, MAX, 0, -1, 1}) {
            x.lay(0, 3, k);
            due(0, x.rest(0, 1), x.rest(0, -1));
        }
        x.lay(0, 3, MIN);
        row(of(0, -1, -8), x.rest(0, MIN), x.rest(0, MAX), x.rest(0, 10));
    }

    static void promise41_nothingChanges() {
        thought(x -> x.rest(2, 5));
    }
}
