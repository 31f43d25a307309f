/** Promises 19 to 27 at their edges: each method holds one sentence of the document, told above it. */
public final class BoundaryThoughtTest extends Checks {
    public static void main(String[] args) throws Exception {
        run(BoundaryThoughtTest.class, 19, 27);
    }

    /** Three who hold it for 1, 2 and 3 seconds, a stop of 1 second, plain papers: without a forfeit 1 has all. */
    private static ParcelRing stayingWith1(int papers) {
        ParcelRing x = ring(1, 2, 3);
        x.stop(0, 1, 0);
        for (int i = 0; i < papers; i++) x.paper(0);
        return x;
    }

    /** Eight who hold it for 1 second, nine stops that go to 0 and an evening: one more each ten turns. */
    private static ParcelRing oneMoreEachTenTurns() {
        ParcelRing x = ring(1, 1, 1, 1, 1, 1, 1, 1);
        for (int i = 0; i < 9; i++) x.stop(4, 0, 0);
        x.stop(2, 0, 0);
        return x;
    }

    // ---- behind

    // "n (0 .. 100) TURNS"
    static void promise19_turnsBelow0OrAbove100AreBad() {
        refused(BAD, x -> x.behind(-1, 0), x -> x.behind(101, 0), x -> x.behind(MIN, 0), x -> x.behind(MAX, 0));
    }

    // "what 0 .. 5"
    static void promise19_whatBelow0OrAbove5IsBad() {
        refused(BAD, x -> x.behind(0, -1), x -> x.behind(0, 6), x -> x.behind(100, MIN), x -> x.behind(100, MAX));
    }

    // n is 0: as it is now
    static void promise19_behind0TurnsItIsAsNow() {
        ParcelRing x = full();
        row(of(x.count(5), x.count(11), x.count(8), x.count(9), x.count(10)),
            x.behind(0, 0), x.behind(0, 1), x.behind(0, 3), x.behind(0, 4), x.behind(0, 5));
        ParcelRing y = ring(1, 1, 1);
        y.lays(1, 1, 1);
        due(2, y.behind(0, 2));
    }

    // n is 100: all of them are taken
    static void promise19_behind100Turns() {
        ParcelRing x = ring(1, 1);
        x.stop(0, 5, 0);
        for (int i = 0; i < 20; i++) x.paper(i < 12 ? 1 : 2);
        // TIME 500; 12 sweets, 8 forfeits; each has had 50.
        row(of(0, 0, 0, 500, 12, 8), x.behind(100, 0), x.behind(100, 1), x.behind(100, 2), x.behind(100, 3), x.behind(100, 4), x.behind(100, 5));
        due(495, x.behind(99, 3));
    }

    // "without the bound of TAKEN"
    static void promise19_beyond9999() {
        ParcelRing x = ring(1, 1, 1);
        takeUpTo(x, 9999);
        x.stop(0, 1, 0);
        row(of(1, 2, 100), x.behind(1, 0), x.behind(2, 0), x.behind(100, 3));
        // TAKEN goes on: 9999, 10000, 10001.
        text(x, "stop p-9998");
        due(6, x.behind(3, 3));
        row(of(9999, 0), x.count(4), x.count(8));
    }

    // Nothing can be had: no STOPS, nobody IN, no CHILDREN.
    static void promise19_nobodyHasIt() {
        ParcelRing x = ring(1, 1);
        x.rule(2, 1);
        x.lays(0, 1, 4);
        row(of(1, 4, 1, 0, 0, 0), x.behind(100, 0), x.behind(100, 1), x.behind(100, 2), x.behind(100, 3), x.behind(100, 4), x.behind(100, 5));
        x.stop(0, 9, 0);
        x.lays(0, 2, 1);
        x.lays(1, 2, 1);
        row(of(1, 4, 1, 0), x.behind(100, 0), x.behind(100, 1), x.behind(100, 2), x.behind(100, 3));
        ParcelRing y = new ParcelRing();
        row(of(0, 0, 0, 0), y.behind(100, 0), y.behind(100, 1), y.behind(100, 2), y.behind(100, 3));
    }

    // "how many have HAD 0", "SPREAD: .. of all CHILDREN": also those who are OUT
    static void promise19_thoseWhoAreOutCount() {
        ParcelRing x = ring(1, 1, 1);
        x.stop(0, 0, 0);
        x.lays(1, 2, 1);
        x.lays(2, 2, 1);
        row(of(2, 3), x.behind(3, 2), x.behind(3, 1));
    }

    // "SPREAD": HAD 99 at most, so 99 is the greatest
    static void promise19_theGreatestSpread() {
        ParcelRing x = ring(1, 1);
        x.stop(0, 0, 0);
        row(of(98, 99, 99), x.behind(98, 1), x.behind(99, 1), x.behind(100, 1));
    }

    static void promise19_nothingChanges() {
        thought(x -> x.behind(0, 0), x -> x.behind(100, 0), x -> x.behind(100, 1), x -> x.behind(100, 2), x -> x.behind(100, 3),
            x -> x.behind(100, 4), x -> x.behind(100, 5));
    }

    // ---- had

    static void promise20_noSuchChildIsBad() {
        refused(BAD, x -> x.had(-1, 0), x -> x.had(10, 0), x -> x.had(MIN, 100), x -> x.had(MAX, 100));
        due(BAD, new ParcelRing().had(0, 0), ring(1).had(1, 0));
    }

    // "n (0 .. 100) TURNS"
    static void promise20_turnsBelow0OrAbove100AreBad() {
        refused(BAD, x -> x.had(0, -1), x -> x.had(0, 101), x -> x.had(9, MIN), x -> x.had(9, MAX));
    }

    static void promise20_behind0And100Turns() {
        ParcelRing x = ring(1, 1);
        x.stop(0, 1, 0);
        row(of(0, 0, 49, 50, 50), x.had(0, 0), x.had(1, 0), x.had(0, 99), x.had(0, 100), x.had(1, 100));
    }

    // "(99 at most)"
    static void promise20_hadIs99AtMost() {
        ParcelRing x = ring(1, 1);
        x.stop(0, 0, 0);
        row(of(98, 99, 99), x.had(0, 98), x.had(0, 99), x.had(0, 100));
        x.lays(0, 1, 99);
        due(99, x.had(0, 0), x.had(0, 1), x.had(0, 100));
    }

    // "without the bound of TAKEN"
    static void promise20_beyond9999() {
        ParcelRing x = ring(1, 1);
        takeUpTo(x, 9999);
        x.stop(0, 1, 0);
        row(of(1, 5, 5), x.had(1, 1), x.had(1, 10), x.had(0, 10));
    }

    static void promise20_nothingChanges() {
        thought(x -> x.had(0, 0), x -> x.had(9, 100));
    }

    // ---- all

    // "behind how many TURNS (0 .. 60)": 0, if nobody has HAD 0, as without CHILDREN
    static void promise21_behind0Turns() {
        due(0, new ParcelRing().all());
        ParcelRing x = ring(1);
        due(NONE, x.all());
        x.lays(0, 1, 1);
        due(0, x.all());
    }

    // "(0 .. 60)": behind exactly 60
    static void promise21_behind60Turns() {
        ParcelRing x = oneMoreEachTenTurns();
        x.lays(0, 1, 1);
        x.lays(1, 1, 1);
        due(60, x.all());
    }

    // "NONE: not by then": it would be behind 61
    static void promise21_behind61TurnsIsNone() {
        ParcelRing x = oneMoreEachTenTurns();
        // The next turn is the evening: 1, 11, .. 61.
        x.go(9);
        due(NONE, x.all());
        x.go(1);
        due(60, x.all());
        x.go(1);
        due(59, x.all());
    }

    // "nobody has HAD 0": nobody of all, also of those who are OUT
    static void promise21_oneWhoIsOutKeepsItFromEnding() {
        ParcelRing x = ring(1, 1);
        x.stop(0, 1, 0);
        due(2, x.all());
        x.lays(1, 2, 1);
        due(NONE, x.all());
    }

    // By THE RULE one who has had it is OUT, the last two stay.
    static void promise21_byTheRule() {
        ParcelRing x = ring(1, 1, 1, 1, 1, 1, 1, 1, 1, 1);
        x.stop(2, 0, 0);
        x.rule(0, 1);
        due(10, x.all());
    }

    // "without the bound of TAKEN"
    static void promise21_beyond9999() {
        ParcelRing x = ring(1, 1, 1);
        takeUpTo(x, 9999);
        x.stop(0, 1, 0);
        due(3, x.all());
    }

    static void promise21_nothingChanges() {
        thought(x -> x.all());
    }

    // ---- evens

    // "v (0 .. 99)"
    static void promise22_vBelow0OrAbove99IsBad() {
        refused(BAD, x -> x.evens(-1), x -> x.evens(100), x -> x.evens(MIN), x -> x.evens(MAX));
        due(BAD, new ParcelRing().evens(-1), new ParcelRing().evens(100));
    }

    // v is 99: no SPREAD is greater; v is 0: "(0 without)" CHILDREN
    static void promise22_behind0Turns() {
        ParcelRing x = ring(1, 1);
        x.lays(0, 1, 99);
        row(of(0, NONE), x.evens(99), x.evens(98));
        due(0, new ParcelRing().evens(0), ring(1).evens(0), ring(1, 1).evens(0));
    }

    // "SPREAD is v at most": just v
    static void promise22_justV() {
        ParcelRing x = ring(1, 1);
        x.stop(2, 0, 0);
        x.lays(0, 1, 10);
        row(of(10, 1, 0, 0), x.evens(0), x.evens(9), x.evens(10), x.evens(11));
    }

    // "(0 .. 60)": behind exactly 60, and not behind 61
    static void promise22_behind60TurnsAndNot61() {
        ParcelRing x = ring(1, 1);
        x.stop(2, 0, 0);
        x.lays(0, 1, 60);
        due(60, x.evens(0));
        x.lays(0, 1, 61);
        row(of(NONE, 60), x.evens(0), x.evens(1));
    }

    // "first": it is even again and again
    static void promise22_theFirstTime() {
        ParcelRing x = ring(1, 1);
        x.stop(0, 1, 0);
        x.go(1);
        row(of(1, 0), x.evens(0), x.evens(1));
    }

    // SPREAD is of those who are OUT too.
    static void promise22_thoseWhoAreOutCount() {
        ParcelRing x = ring(1, 1);
        x.stop(2, 0, 0);
        x.lays(0, 1, 3);
        x.lays(1, 2, 1);
        row(of(NONE, 0), x.evens(2), x.evens(3));
    }

    // "without the bound of TAKEN"
    static void promise22_beyond9999() {
        ParcelRing x = ring(1, 1);
        takeUpTo(x, 9999);
        x.stop(2, 0, 0);
        x.lays(0, 1, 7);
        due(7, x.evens(0));
    }

    static void promise22_nothingChanges() {
        thought(x -> x.evens(0), x -> x.evens(99));
    }

    // ---- steer

    static void promise23_noSuchChildIsBad() {
        refused(BAD, x -> x.steer(-1, 1), x -> x.steer(10, 1), x -> x.steer(MIN, 30), x -> x.steer(MAX, 30));
        due(BAD, new ParcelRing().steer(0, 1), ring(1).steer(1, 1));
    }

    // "n (1 .. 30)"
    static void promise23_papersBelow1OrAbove30AreBad() {
        refused(BAD, x -> x.steer(0, 0), x -> x.steer(0, -1), x -> x.steer(0, 31), x -> x.steer(9, MIN), x -> x.steer(9, MAX));
    }

    // "k (0 .. n less 1)": of one paper 0 alone
    static void promise23_ofOnePaper() {
        ParcelRing x = ring(1, 1, 1);
        x.stop(0, 1, 0);
        row(of(NONE, 0, NONE), x.steer(0, 1), x.steer(1, 1), x.steer(2, 1));
        x.lays(1, 1, 1);
        row(of(NONE, NONE, 0), x.steer(0, 1), x.steer(1, 1), x.steer(2, 1));
    }

    // "the greatest k": n less 1, if that will do
    static void promise23_fromTheLastPaperOn() {
        ParcelRing x = ring(1, 1, 1);
        x.stop(0, 0, 0);
        // 29 are had by 0; an evening goes to 1; of two evenings the last one goes to 2.
        row(of(29, 28), x.steer(1, 30), x.steer(2, 30));
    }

    // "k (0 ..": 0, if nothing else will do; "NONE: there is none"
    static void promise23_fromTheFirstPaperOn() {
        ParcelRing x = ring(1, 1, 1);
        x.stop(4, 0, 2);
        // With k 1: 2, then 0. With k 0: 0, then 1.
        row(of(1, 0, NONE), x.steer(0, 2), x.steer(1, 2), x.steer(2, 2));
    }

    // Nobody has it: no STOPS, nobody IN.
    static void promise23_nobodyHasIt() {
        ParcelRing x = ring(1, 1);
        due(NONE, x.steer(0, 1), x.steer(0, 30), x.steer(1, 30));
        x.stop(2, 0, 0);
        due(0, x.steer(0, 1));
        x.lays(0, 2, 1);
        row(of(NONE, 0), x.steer(0, 1), x.steer(1, 1));
        x.lays(1, 2, 1);
        due(NONE, x.steer(0, 1), x.steer(1, 30));
    }

    // "all STOPS were EVENINGS with their SECONDS": lots draw only ahead of the k-th
    static void promise23_eveningsDoNotDraw() {
        ParcelRing x = ring(1, 1, 1, 1, 1, 1, 1, 1, 1, 1);
        x.stop(1, 4, 0);
        for (int i = 0; i < 10; i++) due(i == 4 ? 0 : NONE, x.steer(i, 1));
        // Behind one lot of 4 and x seconds 4 more: the evening lands there.
        int lands = (4 + drawn(1, 1)[0] % 10 + 4) % 10;
        due(1, x.steer(lands, 2));
    }

    // "without the bound of TAKEN"
    static void promise23_beyond9999() {
        ParcelRing x = ring(1, 1, 1);
        takeUpTo(x, 9999);
        x.stop(0, 0, 0);
        row(of(29, 28), x.steer(1, 30), x.steer(2, 30));
    }

    static void promise23_nothingChanges() {
        thought(x -> x.steer(0, 1), x -> x.steer(9, 30));
        refused(NONE, x -> x.steer(4, 30));
    }

    // ---- pays

    static void promise24_noSuchChildIsBad() {
        refused(BAD, x -> x.pays(-1, 1, 0), x -> x.pays(10, 1, 0), x -> x.pays(MIN, 60, 1), x -> x.pays(MAX, 60, 1));
        due(BAD, new ParcelRing().pays(0, 1, 0), ring(1).pays(1, 1, 0));
    }

    // "n (1 .. 60)"
    static void promise24_turnsBelow1OrAbove60AreBad() {
        refused(BAD, x -> x.pays(0, 0, 0), x -> x.pays(0, -1, 0), x -> x.pays(0, 61, 0), x -> x.pays(9, MIN, 1), x -> x.pays(9, MAX, 1));
    }

    // "what 0 the HOLD, 1 HAD then"
    static void promise24_whatBelow0OrAbove1IsBad() {
        refused(BAD, x -> x.pays(0, 1, -1), x -> x.pays(0, 1, 2), x -> x.pays(9, 60, MIN), x -> x.pays(9, 60, MAX));
    }

    // "the HOLD 1 .. 9": 9, if nothing less will do, over 1 turn and over 60
    static void promise24_theGreatestHold() {
        ParcelRing x = ring(1, 9);
        x.stop(0, 8, 0);
        row(of(9, 1, 9, 60), x.pays(0, 1, 0), x.pays(0, 1, 1), x.pays(0, 60, 0), x.pays(0, 60, 1));
        // With 9 seconds there is none that will do: the least, and what it had.
        x.set(0, 1, 9);
        row(of(1, 0), x.pays(0, 1, 0), x.pays(0, 1, 1));
    }

    // "of several the least"
    static void promise24_ofSeveralTheLeast() {
        ParcelRing x = ring(9, 9);
        x.stop(0, 3, 0);
        // It stays with 0 from a hold of 4 on.
        row(of(4, 10), x.pays(0, 10, 0), x.pays(0, 10, 1));
        x.set(0, 1, 0);
        row(of(1, 10), x.pays(0, 10, 0), x.pays(0, 10, 1));
    }

    // "HAD then": 99 at most, so that no hold is better
    static void promise24_hadIs99AtMost() {
        ParcelRing x = ring(1, 9);
        x.stop(0, 8, 0);
        x.lays(0, 1, 98);
        row(of(9, 99), x.pays(0, 60, 0), x.pays(0, 60, 1));
        x.lays(0, 1, 99);
        row(of(1, 99), x.pays(0, 60, 0), x.pays(0, 60, 1));
    }

    // No hold pays: no STOPS, it is OUT, a text that does not ask for it.
    static void promise24_noHoldPays() {
        ParcelRing x = ring(5, 5);
        x.lays(0, 1, 7);
        row(of(1, 7), x.pays(0, 60, 0), x.pays(0, 60, 1));
        x.stop(0, 3, 0);
        x.lays(0, 2, 1);
        row(of(1, 7), x.pays(0, 60, 0), x.pays(0, 60, 1));
        x.lays(0, 2, 0);
        text(x, "hold 4");
        row(of(1, 9), x.pays(0, 2, 0), x.pays(0, 2, 1));
    }

    // "without the bound of TAKEN"
    static void promise24_beyond9999() {
        ParcelRing x = ring(1, 9);
        takeUpTo(x, 9999);
        x.stop(0, 8, 0);
        row(of(9, 60), x.pays(0, 60, 0), x.pays(0, 60, 1));
    }

    static void promise24_nothingChanges() {
        thought(x -> x.pays(0, 1, 0), x -> x.pays(9, 60, 1));
    }

    // ---- worst

    // "n (1 .. 60)"
    static void promise25_turnsBelow1OrAbove60AreBad() {
        refused(BAD, x -> x.worst(0, 0), x -> x.worst(-1, 0), x -> x.worst(61, 0), x -> x.worst(MIN, 1), x -> x.worst(MAX, 1));
    }

    // "what 0 the PAPER, 1 SPREAD then"
    static void promise25_whatBelow0OrAbove1IsBad() {
        refused(BAD, x -> x.worst(1, -1), x -> x.worst(1, 2), x -> x.worst(60, MIN), x -> x.worst(60, MAX));
    }

    // BAD; "NONE: there are no PAPERS"
    static void promise25_noneWithoutPapers() {
        ParcelRing x = stayingWith1(0);
        due(NONE, x.worst(1, 0), x.worst(1, 1), x.worst(60, 0), x.worst(60, 1));
        due(BAD, x.worst(0, 0), x.worst(61, 0), x.worst(1, 2), x.worst(1, -1));
        due(0, x.count(3));
    }

    // Over 1 turn and over 60. With a forfeit at k (1 and more) 1 has k of them, 2 all others.
    static void promise25_overTheFewestAndTheMostTurns() {
        ParcelRing x = stayingWith1(20);
        row(of(0, 1, 19, 41), x.worst(1, 0), x.worst(1, 1), x.worst(60, 0), x.worst(60, 1));
    }

    // "the PAPER of those that there are": the last one too, and none behind it
    static void promise25_theLastPaper() {
        ParcelRing x = stayingWith1(20);
        row(of(19, 19), x.worst(38, 0), x.worst(38, 1));
        ParcelRing y = stayingWith1(5);
        row(of(4, 16), y.worst(20, 0), y.worst(20, 1));
    }

    // "of several the least": 9 and 10 both leave a spread of 10
    static void promise25_ofSeveralTheLeast() {
        ParcelRing x = stayingWith1(20);
        row(of(9, 10), x.worst(19, 0), x.worst(19, 1));
        row(of(10, 10), x.worst(20, 0), x.worst(20, 1));
    }

    // One that is taken is one of those that there are; as a forfeit it changes nothing more.
    static void promise25_aTakenPaperIsOneOfThem() {
        ParcelRing x = stayingWith1(1);
        x.go(1);
        row(of(0, 6), x.worst(5, 0), x.worst(5, 1));
        // The next one, not yet taken, is better.
        x.paper(0);
        row(of(1, 5), x.worst(5, 0), x.worst(5, 1));
        // Counted from all papers, not from now on.
        x.paper(0);
        row(of(2, 4), x.worst(5, 0), x.worst(5, 1));
    }

    // One that is a forfeit stays one; sweets may become one.
    static void promise25_allForfeits() {
        ParcelRing x = ring(1, 1, 1);
        papers(x, 2, 2, 2);
        x.stop(0, 1, 0);
        // 1, then 0 (the way has turned), then 1 again.
        row(of(0, 2), x.worst(3, 0), x.worst(3, 1));
    }

    // Nobody has it: SPREAD as it is.
    static void promise25_nobodyHasIt() {
        ParcelRing x = ring(1, 1);
        x.lays(0, 1, 8);
        papers(x, 0, 0);
        row(of(0, 8), x.worst(60, 0), x.worst(60, 1));
        ParcelRing y = new ParcelRing();
        y.paper(0);
        row(of(0, 0), y.worst(60, 0), y.worst(60, 1));
    }

    // "without the bound of TAKEN": all papers are taken, the turns go on
    static void promise25_beyond9999() {
        ParcelRing x = ring(1, 2, 3);
        papers(x, 0, 0);
        takeUpTo(x, 9999);
        x.stop(0, 1, 0);
        row(of(0, 1, 0, 60), x.worst(1, 0), x.worst(1, 1), x.worst(60, 0), x.worst(60, 1));
    }

    static void promise25_nothingChanges() {
        thought(x -> x.worst(1, 0), x -> x.worst(60, 1));
    }

    // ---- filmed

    // "by a SHEET": 0 .. 3
    static void promise26_noSuchSheetIsBad() {
        refused(BAD, x -> x.filmed(-1, 0), x -> x.filmed(4, 0), x -> x.filmed(MIN, 1), x -> x.filmed(MAX, 1));
    }

    // "what 0 the SECONDS, 1 how many places": BAD, ahead of NOTHING
    static void promise26_whatBelow0OrAbove1IsBad() {
        refused(BAD, x -> x.filmed(0, -1), x -> x.filmed(0, 2), x -> x.filmed(3, -1), x -> x.filmed(3, 2), x -> x.filmed(0, MAX));
    }

    // "NOTHING: a SHEET is MISSING"
    static void promise26_aMissingSheetIsNothing() {
        refused(NOTHING, x -> x.filmed(3, 0), x -> x.filmed(3, 1));
    }

    // No places, or no numbers in them: nothing is told otherwise, and 0 is the least.
    static void promise26_withoutNumbers() {
        ParcelRing x = ring(1, 1);
        x.stop(0, 5, 0);
        x.sheet(0, 0, 0);
        x.sheet(1, 1, 24);
        for (int i = 0; i < 24; i++) x.mark(1, i, NONE);
        row(of(0, 0, 0, 0), x.filmed(0, 0), x.filmed(0, 1), x.filmed(1, 0), x.filmed(1, 1));
    }

    // "the SECONDS 0 ..": 0, if that will do
    static void promise26_theLeastSeconds() {
        ParcelRing x = ring(1, 1);
        x.stop(0, 5, 0);
        x.sheet(0, 0, 24);
        row(of(0, 0), x.filmed(0, 0), x.filmed(0, 1));
    }

    // "the SECONDS 0 .. 40": 40, if nothing less will do, and not 41
    static void promise26_theMostSeconds() {
        ParcelRing x = ring(1, 1);
        x.stop(0, 5, 0);
        x.sheet(0, 0, 1);
        x.mark(0, 0, 1);
        text(x, "hold 40");
        row(of(40, 0), x.filmed(0, 0), x.filmed(0, 1));
        text(x, "hold 41");
        row(of(0, 1), x.filmed(0, 0), x.filmed(0, 1));
    }

    // "of all STOPS": of each of ten
    static void promise26_ofAllStops() {
        ParcelRing x = ring(2, 2, 2);
        for (int i = 0; i < 10; i++) x.stop(0, 50 + i, 0);
        x.sheet(0, 0, 12);
        for (int i = 0; i < 12; i++) x.mark(0, i, (i + 1) % 3);
        row(of(2, 0, 50, 59), x.filmed(0, 0), x.filmed(0, 1), x.told(0, 1), x.told(9, 1));
    }

    // "(numbers alone)": a place that is none is passed over, but its paper is had
    static void promise26_noNumberIsPassedOver() {
        ParcelRing x = ring(2, 2, 2);
        x.stop(0, 0, 0);
        x.sheet(0, 1, 2);
        x.mark(0, 0, NONE);
        x.mark(0, 1, 1);
        // Twice two steps lead to 1.
        row(of(4, 0), x.filmed(0, 0), x.filmed(0, 1));
    }

    // All of 24 places tell another one: 24, with the least seconds.
    static void promise26_allPlacesTellAnotherOne() {
        ParcelRing x = ring(1, 1);
        x.stop(0, 5, 0);
        x.sheet(0, 0, 24);
        for (int i = 0; i < 24; i++) x.mark(0, i, 2);
        row(of(0, 24), x.filmed(0, 0), x.filmed(0, 1));
        // With one second it is with 1 behind each odd number of turns.
        x.mark(0, 22, 1);
        row(of(1, 23), x.filmed(0, 0), x.filmed(0, 1));
    }

    // "of several the least"
    static void promise26_ofSeveralTheLeast() {
        ParcelRing x = ring(3, 3);
        x.stop(0, 0, 0);
        x.sheet(0, 0, 1);
        x.mark(0, 0, 1);
        row(of(3, 0), x.filmed(0, 0), x.filmed(0, 1));
    }

    // "who has the k-th paper": -1, where nobody has it (no STOPS, nobody IN)
    static void promise26_whereNobodyHasIt() {
        ParcelRing x = ring(1, 1);
        x.sheet(0, 0, 3);
        row(of(0, 3), x.filmed(0, 0), x.filmed(0, 1));
        x.mark(0, 1, -1);
        row(of(0, 2), x.filmed(0, 0), x.filmed(0, 1));
    }

    // "without the bound of TAKEN"
    static void promise26_beyond9999() {
        ParcelRing x = ring(2, 2);
        takeUpTo(x, 9999);
        x.stop(0, 0, 0);
        x.sheet(0, 0, 2);
        x.mark(0, 0, 1);
        row(of(2, 0), x.filmed(0, 0), x.filmed(0, 1));
    }

    static void promise26_nothingChanges() {
        thought(x -> x.filmed(0, 0), x -> x.filmed(1, 1), x -> x.filmed(2, 0));
    }

    // ---- fine

    static void promise27_noSuchChildIsBad() {
        refused(BAD, x -> x.fine(-1), x -> x.fine(10), x -> x.fine(MIN), x -> x.fine(MAX));
        due(BAD, new ParcelRing().fine(0), ring(1).fine(1));
    }

    // "(without a TEXT: HAD)", the least and the most, OUT too
    static void promise27_withoutATextHad() {
        ParcelRing x = ring(1, 1);
        x.lays(1, 1, 99);
        x.lays(1, 2, 1);
        row(of(0, 99), x.fine(0), x.fine(1));
        text(x, "hold 5");
        text(x, "stop 5");
        row(of(0, 99), x.fine(0), x.fine(1));
    }

    // What it gives is held within nothing: "Ints wrap"
    static void promise27_whatItGivesIsNotHeld() {
        ParcelRing x = ring(1);
        text(x, "fine 0-1");
        due(-1, x.fine(0));
        text(x, "fine 9999*9999");
        due(99980001, x.fine(0));
        text(x, "fine 8*4096*4096*16");
        due(MIN, x.fine(0));
        text(x, "fine 8*4096*4096*16-1");
        due(MAX, x.fine(0));
    }

    // "p TAKEN": up to 9999
    static void promise27_atTheMostTaken() {
        ParcelRing x = ring(1);
        text(x, "fine p*10+a");
        due(0, x.fine(0));
        takeUpTo(x, 9999);
        due(99990, x.fine(0));
        x.go(1);
        due(99990, x.fine(0));
    }

    static void promise27_nothingChanges() {
        thought(x -> x.fine(0), x -> x.fine(9));
    }
}
