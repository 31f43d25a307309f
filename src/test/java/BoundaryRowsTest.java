/** Promises 42 to 46 at their edges: each method holds one sentence of the document, told above it. */
public final class BoundaryRowsTest extends Checks {
    public static void main(String[] args) throws Exception {
        run(BoundaryRowsTest.class, 42, 46);
    }

    private static int checked(ParcelRing x, int n, int... numbers) {
        for (int number : numbers) x.tell(number);
        int answer = x.check(n);
        due(0, x.count(13));
        return answer;
    }

    /** Three who hold it for 1 second, a stop of 1 second, kept: 1 1, 2 1, 0 0, 1 1, .. */
    private static ParcelRing going() {
        ParcelRing x = ring(1, 1, 1);
        x.stop(0, 1, 0);
        x.keep();
        return x;
    }

    // ---- tell

    // "FULL: 60 wait"
    static void promise42_sixtyWait() {
        ParcelRing x = new ParcelRing();
        for (int i = 1; i <= 60; i++) due(i, x.tell(i));
        due(60, x.count(13));
        due(FULL, x.tell(61));
        refused(FULL, y -> y.tell(0), y -> y.tell(MIN), y -> y.tell(MAX));
    }

    // "One more number waits": any number
    static void promise42_anyNumber() {
        ParcelRing x = new ParcelRing();
        row(of(1, 2, 3, 4), x.tell(MIN), x.tell(MAX), x.tell(BAD), x.tell(NONE));
        // They are as they were told: none of them is who has it.
        ParcelRing y = going();
        due(1, checked(y, 1, 65537), checked(y, 1, 257), checked(y, 1, -1), checked(y, 1, MIN + 1));
    }

    // Behind a check there is room for 60 again, and none of the old ones is left.
    static void promise42_roomBehindACheck() {
        ParcelRing x = full();
        due(0, x.check(30));
        for (int i = 1; i <= 60; i++) due(i, x.tell(i == 60 ? 1 : 0));
        due(FULL, x.tell(0));
        due(60, x.check(30));
        due(1, x.check(1));
    }

    // ---- check

    // "n (1 .. 30)"; "none do then, whatever is answered"
    static void promise43_fewerThan1OrMoreThan30IsBad() {
        for (int n : new int[] {0, -1, 31, MIN, MAX}) {
            ParcelRing x = full();
            row(of(BAD, 0), x.check(n), x.count(13));
        }
    }

    // It changes nothing but the numbers that wait.
    static void promise43_badChangesNothingElse() {
        for (int n : new int[] {0, 31, 1, 30}) {
            ParcelRing x = full(), y = full();
            x.check(n);
            y.check(2);
            row(everything(y), everything(x));
        }
    }

    // "BAD; NO: there is no IMAGE"; "none do then, whatever is answered"
    static void promise43_noWithoutAnImage() {
        ParcelRing x = ring(1);
        x.stop(0, 0, 0);
        x.tell(0);
        row(of(NO, 0), x.check(1), x.count(13));
        x.tell(0);
        row(of(BAD, 0), x.check(0), x.count(13));
        x.tell(0);
        row(of(BAD, 0), x.check(31), x.count(13));
        due(NO, x.check(30));
    }

    // The fewest, and the most that can wait.
    static void promise43_oneTurnAndThirty() {
        ParcelRing x = going();
        due(0, checked(x, 1, 1, 1));
        int[] thirty = new int[60];
        for (int i = 0; i < 30; i++) {
            thirty[2 * i] = (i + 1) % 3;
            thirty[2 * i + 1] = i % 3 == 2 ? 0 : 1;
        }
        due(0, checked(x, 30, thirty));
        thirty[59]++;
        due(60, checked(x, 30, thirty));
        thirty[58]++;
        due(59, checked(x, 30, thirty));
        thirty[0]++;
        due(1, checked(x, 30, thirty));
    }

    // "or is missing": all of them, the last of them, a half of a turn
    static void promise43_oneIsMissing() {
        ParcelRing x = going();
        due(1, checked(x, 1), checked(x, 30));
        due(2, checked(x, 1, 1), checked(x, 30, 1));
        due(3, checked(x, 2, 1, 1));
        due(4, checked(x, 2, 1, 1, 2));
        due(0, checked(x, 2, 1, 1, 2, 1));
    }

    // What was told ahead of the last check does not fill up what is missing.
    static void promise43_oldNumbersDoNotFillUp() {
        ParcelRing x = going();
        due(0, checked(x, 2, 1, 1, 2, 1));
        due(3, checked(x, 2, 1, 1));
        due(1, checked(x, 2));
    }

    // "or one too many"
    static void promise43_oneTooMany() {
        ParcelRing x = going();
        due(3, checked(x, 1, 1, 1, 2), checked(x, 1, 1, 1, 2, 1), checked(x, 1, 1, 1, 9, 9, 9));
        due(5, checked(x, 2, 1, 1, 2, 1, 0));
        // One that is not so stands ahead of it.
        due(2, checked(x, 1, 1, 0, 2));
    }

    // "1 and how many stand right ahead of the first that is not"
    static void promise43_theFirstThatIsNot() {
        ParcelRing x = going();
        due(1, checked(x, 2, 0, 1, 2, 1), checked(x, 2, 0, 0, 0, 0));
        due(2, checked(x, 2, 1, 0, 2, 1));
        due(3, checked(x, 2, 1, 1, 1, 1));
        due(4, checked(x, 2, 1, 1, 2, 2));
    }

    // "who HAS the paper (-1: nobody)"
    static void promise43_nobodyIsMinus1() {
        ParcelRing x = ring(1, 1);
        x.lays(0, 1, 99);
        x.keep();
        due(0, checked(x, 2, -1, 99, -1, 99));
        due(1, checked(x, 2, 0, 99, 0, 99));
        x.stop(0, 0, 0);
        x.lays(0, 2, 1);
        x.lays(1, 2, 1);
        x.keep();
        due(0, checked(x, 1, -1, 99));
        ParcelRing y = new ParcelRing();
        y.keep();
        due(0, checked(y, 3, -1, 0, -1, 0, -1, 0));
    }

    // "fewer, if TAKEN would be above 9999": of THE IMAGE
    static void promise43_fewerUpTo9999() {
        ParcelRing x = ring(1, 1, 1);
        takeUpTo(x, 9997);
        x.stop(0, 1, 0);
        x.keep();
        due(0, checked(x, 2, 1, 1, 2, 1), checked(x, 3, 1, 1, 2, 1), checked(x, 30, 1, 1, 2, 1));
        due(5, checked(x, 3, 1, 1, 2, 1, 0, 0));
        due(3, checked(x, 2, 1, 1), checked(x, 30, 1, 1));
        due(0, checked(x, 1, 1, 1));
    }

    // At 9999 there are no turns: no number is right.
    static void promise43_at9999() {
        ParcelRing x = ring(1, 1, 1);
        takeUpTo(x, 9999);
        x.stop(0, 1, 0);
        x.keep();
        due(0, checked(x, 1), checked(x, 30));
        due(1, checked(x, 1, -1), checked(x, 30, 1, 1));
    }

    // "by THE IMAGE": what came behind it does not count, TAKEN neither
    static void promise43_byTheImage() {
        ParcelRing x = going();
        takeUpTo(x, 9999);
        x.turns(0, 2);
        x.set(0, 1, 50);
        x.lays(0, 1, 7);
        x.child(9);
        text(x, "stop 0");
        due(0, checked(x, 3, 1, 1, 2, 1, 0, 0));
        // By the one that was kept last.
        x.keep();
        due(1, checked(x, 3, 1, 1, 2, 1, 0, 0));
    }

    // It is only thought: again and again the same.
    static void promise43_againTheSame() {
        ParcelRing x = ring(1, 1, 1);
        x.stop(1, 0, 0);
        x.keep();
        int has = drawn(1, 1)[0] % 10 % 3;
        due(0, checked(x, 1, has, 1), checked(x, 1, has, 1));
        row(of(1, 0, 0), x.count(15), x.count(4), x.count(8));
    }

    // ---- keep

    // "how many CHILDREN": none, all
    static void promise44_noneOrTen() {
        due(0, new ParcelRing().keep());
        due(10, full().keep());
    }

    // The last one counts.
    static void promise44_theLastOneCounts() {
        ParcelRing x = ring(1);
        due(1, x.keep());
        x.child(2);
        due(2, x.keep());
        x.child(3);
        row(of(2, 2), x.back(), x.count(0));
    }

    // Nothing changes of what is now: the next call answers as without it.
    static void promise44_nothingElseChanges() {
        ParcelRing x = full();
        x.keep();
        int[] kept = everything(x), due = everything(full());
        // Behind the check and back of everything() the image itself is told: it is another one here.
        int same = due.length - 23;
        row(java.util.Arrays.copyOf(due, same), java.util.Arrays.copyOf(kept, same));
    }

    // ---- back

    // "NO: there is none"
    static void promise45_noWithoutAnImage() {
        ParcelRing x = ring(1, 2);
        x.stop(0, 1, 0);
        x.go(1);
        due(NO, x.back());
        row(of(2, 1, 1), x.count(0), x.count(4), x.count(5));
        due(NO, new ParcelRing().back());
    }

    // "how many CHILDREN": none, if there were none, whatever came then
    static void promise45_toAnEmptyOne() {
        ParcelRing x = new ParcelRing();
        x.keep();
        for (int i = 0; i < 10; i++) {
            x.child(9);
            x.stop(1, 5, 5);
            x.paper(2);
            x.paper(2);
        }
        for (int i = 0; i < 14; i++) text(x, "hold 9");
        x.rule(0, 1);
        x.go(33);
        due(0, x.back());
        row(everything(new ParcelRing()), withoutImage(x));
        // There is room for all again.
        for (int i = 0; i < 10; i++) due(i, x.child(1), x.stop(0, 0, 0), x.paper(0), text(x, "hold 1"));
    }

    /** Of an object with an image of nothing what everything() would tell without one. */
    private static int[] withoutImage(ParcelRing x) {
        int[] all = everything(x), due = everything(new ParcelRing());
        int check = all.length - 23;
        row(of(1, 0, NO, NO), all[check] == 1 ? 1 : 0, all[check + 1], due[check], due[check + 1]);
        all[check] = NO;
        all[check + 1] = NO;
        return all;
    }

    // From an empty one to a full one.
    static void promise45_toAFullOne() {
        ParcelRing x = full();
        x.back();
        row(of(1, 1), x.count(0), x.count(2));
        ParcelRing y = full();
        y.text();
        y.keep();
        int[] counts = new int[16];
        for (int i = 0; i < 16; i++) counts[i] = y.count(i);
        for (int i = 0; i < 10; i++) {
            y.lays(i, 0, 1);
            y.lays(i, 1, 0);
            y.turns(i, 0);
            y.set(i, 1, 0);
            y.sorts(10 + i, 0);
        }
        y.go(50);
        due(10, y.back());
        for (int i = 0; i < 16; i++) due(counts[i], y.count(i));
        row(of(9, 27, 3, 19, 1), y.childTold(9, 0), y.childTold(9, 1), y.told(9, 0), y.told(9, 1), y.sorts(19, 1));
        due(FULL, y.child(1), y.stop(0, 0, 0), y.paper(0), text(y, "hold 1"));
    }

    // "(again and again)"
    static void promise45_againAndAgain() {
        ParcelRing x = going();
        for (int i = 0; i < 20; i++) {
            due(2, x.go(2));
            x.lays(0, 0, 9);
            x.seed(i);
            due(3, x.back(), x.back());
            row(of(0, 0, 1, 1), x.count(4), x.count(5), x.childTold(0, 0), x.count(15));
        }
    }

    // "keeps all but SHEETS, SLOTS, numbers that wait, THE TAPE": those stay
    static void promise45_whatItDoesNotKeep() {
        ParcelRing x = full();
        x.back();
        row(of(60, 96), x.count(13), x.count(14));
        row(of(20, 40, 17, NOTHING, -50), x.ask(0, 0), x.item(1, 0), x.rest(2, 1000), x.rest(3, 1), x.item(4, 0));
        row(of(NOTHING, 0, 39), x.reads(3), x.reads(0), x.mark(0, 5, 39) + 38);
        due(0, x.check(30));
        due(0, x.text());
        due(7, x.fine(0));
    }

    // TAKEN too: behind 9999 turns go again.
    static void promise45_from9999() {
        ParcelRing x = going();
        takeUpTo(x, 9999);
        x.back();
        row(of(0, 1, 1), x.count(4), x.go(1), x.count(4));
    }

    // ---- count

    // "0 .. 15"
    static void promise46_whatBelow0OrAbove15IsBad() {
        refused(BAD, x -> x.count(-1), x -> x.count(16), x -> x.count(MIN), x -> x.count(MAX));
        due(BAD, new ParcelRing().count(16));
    }

    // Of a new object, and of one in which all is taken up.
    static void promise46_emptyAndFull() {
        ParcelRing x = new ParcelRing();
        int[] empty = new int[16], all = new int[16];
        for (int i = 0; i < 16; i++) empty[i] = x.count(i);
        row(of(0, 0, 0, 0, 0, 0, 1, 0, 0, 0, 0, 0, 0, 0, 0, 1), empty);
        ParcelRing y = full();
        y.rule(2, 9);
        takeUpTo(y, 9999);
        y.text();
        for (int i = 0; i < 16; i++) all[i] = y.count(i);
        row(of(10, 10, 20, 9999, 14, 60, 0), all[0], all[2], all[3], all[4], all[12], all[13], all[14]);
    }

    // "1 who are IN": none, two by THE RULE
    static void promise46_whoAreIn() {
        ParcelRing x = ring(1, 1, 1, 1);
        x.stop(0, 1, 0);
        due(4, x.count(1));
        x.rule(0, 1);
        x.go(100);
        due(2, x.count(1));
        for (int i = 0; i < 4; i++) x.lays(i, 2, 1);
        row(of(0, 4), x.count(1), x.count(0));
    }

    // "9 SWEETS, 10 FORFEITS": all of 20 papers
    static void promise46_twentySweetsOrForfeits() {
        ParcelRing x = ring(1, 1), y = ring(1, 1);
        x.stop(0, 1, 0);
        y.stop(0, 1, 0);
        for (int i = 0; i < 20; i++) {
            x.paper(1);
            y.paper(2);
        }
        x.go(100);
        y.go(100);
        row(of(20, 0, 0, 20), x.count(9), x.count(10), y.count(9), y.count(10));
    }

    // "11 SPREAD": "(0 without)", 0 of one alone, 99 at most, those who are OUT too
    static void promise46_spread() {
        due(0, new ParcelRing().count(11));
        ParcelRing x = ring(1);
        x.lays(0, 1, 99);
        due(0, x.count(11));
        x.child(1);
        due(99, x.count(11));
        x.lays(1, 2, 1);
        due(99, x.count(11));
        x.lays(0, 1, 0);
        due(0, x.count(11));
        x.lays(1, 1, 99);
        due(99, x.count(11));
    }

    // "15 z": any number, also one below 0
    static void promise46_z() {
        ParcelRing x = new ParcelRing();
        for (int z : new int[] {MIN, MAX, 0, -1, BAD}) {
            x.seed(z);
            due(z, x.count(15));
        }
    }

    static void promise46_nothingChanges() {
        thought(x -> x.count(0), x -> x.count(1), x -> x.count(11), x -> x.count(13), x -> x.count(14), x -> x.count(15));
    }
}
