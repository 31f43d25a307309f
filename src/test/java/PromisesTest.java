import java.util.Arrays;

/** For each promise ordinary inputs, the edges that the document names, and wrong inputs, worked out by hand. */
public final class PromisesTest extends Checks {
    public static void main(String[] args) {
        promise = "promise 1"; fresh();
        promise = "promise 2"; child();
        promise = "promise 3"; childTold();
        promise = "promise 4"; lays();
        promise = "promise 5"; paper();
        promise = "promise 6"; sorts();
        promise = "promise 7"; rule();
        promise = "promise 8"; stop();
        promise = "promise 9"; told();
        promise = "promise 10"; as();
        promise = "promise 11"; turns();
        promise = "promise 12"; set();
        promise = "promise 13"; deal();
        promise = "promise 14"; seed();
        promise = "promise 15"; lands();
        promise = "promise 16"; round();
        promise = "promise 17"; go();
        promise = "promise 18"; odds();
        promise = "promise 19"; behind();
        promise = "promise 20"; had();
        promise = "promise 21"; all();
        promise = "promise 22"; evens();
        promise = "promise 23"; steer();
        promise = "promise 24"; pays();
        promise = "promise 25"; worst();
        promise = "promise 26"; filmed();
        promise = "promise 27"; fine();
        promise = "promise 28"; feed();
        promise = "promise 29"; trim();
        promise = "promise 30"; text();
        promise = "promise 31"; textTold();
        promise = "promise 32"; why();
        promise = "promise 33"; sheet();
        promise = "promise 34"; mark();
        promise = "promise 35"; pour();
        promise = "promise 36"; reads();
        promise = "promise 37"; copy();
        promise = "promise 38"; lay();
        promise = "promise 39"; ask();
        promise = "promise 40"; item();
        promise = "promise 41"; rest();
        promise = "promise 42"; tell();
        promise = "promise 43"; check();
        promise = "promise 44"; keep();
        promise = "promise 45"; back();
        promise = "promise 46"; count();
        finish("the promises hold");
    }

    private static void fresh() {
        ParcelRing x = new ParcelRing();
        int[] counts = new int[16];
        for (int i = 0; i < 16; i++) counts[i] = x.count(i);
        row(of(0, 0, 0, 0, 0, 0, 1, 0, 0, 0, 0, 0, 0, 0, 0, 1), counts);
        due(BAD, x.childTold(0, 0), x.told(0, 0), x.sorts(0, 0), x.textTold(0, 0));
        for (int i = 0; i < 4; i++) due(NOTHING, x.reads(i), x.pour(i), x.mark(i, 0, 0), x.filmed(i, 0));
        for (int i = 0; i < 5; i++) due(NOTHING, x.ask(i, 0), x.item(i, 0), x.rest(i, 1));
        due(NO, x.back());
        due(NONE, x.why(0), x.why(1), x.why(2));
    }

    private static void child() {
        ParcelRing x = new ParcelRing();
        due(BAD, x.child(0), x.child(10), x.child(-1), x.child(MIN), x.child(MAX));
        for (int i = 0; i < 10; i++) due(i, x.child(i % 9 + 1));
        due(FULL, x.child(1), x.child(9));
        due(BAD, x.child(0), x.child(10));
        row(of(10, 10), x.count(0), x.count(1));
        row(of(9, 0, 0), x.childTold(8, 0), x.childTold(8, 1), x.childTold(8, 2));
        // A place that was used ahead of an image is as new again.
        x = ring(3);
        x.keep();
        x.child(4);
        x.lays(1, 1, 7);
        x.lays(1, 2, 1);
        x.back();
        due(1, x.child(5));
        row(of(5, 0, 0), x.childTold(1, 0), x.childTold(1, 1), x.childTold(1, 2));
    }

    private static void childTold() {
        ParcelRing x = ring(3, 2, 5);
        x.lays(1, 1, 42);
        x.lays(2, 2, 1);
        row(of(2, 42, 0, 2, 0), x.childTold(1, 0), x.childTold(1, 1), x.childTold(1, 2), x.childTold(1, 3), x.childTold(1, 4));
        row(of(5, 0, 1, 5, 0), x.childTold(2, 0), x.childTold(2, 1), x.childTold(2, 2), x.childTold(2, 3), x.childTold(2, 4));
        due(BAD, x.childTold(3, 0), x.childTold(-1, 0), x.childTold(0, -1), x.childTold(0, 5), x.childTold(MIN, MAX));
        x.rule(1, 0);
        row(of(1, 0, 1), x.childTold(0, 4), x.childTold(1, 4), x.childTold(2, 4));
        x.lays(0, 2, 1);
        row(of(1, 1, 1), x.childTold(0, 4), x.childTold(1, 4), x.childTold(2, 4));
        x.lays(1, 2, 1);
        row(of(NONE, NONE, NONE), x.childTold(0, 4), x.childTold(1, 4), x.childTold(2, 4));
        // HOLDS: 1 by a forfeit, by a text what it gives within 1 .. 99, the forfeit told by f alone.
        x.paper(2);
        row(of(1, 1, 1), x.childTold(0, 3), x.childTold(1, 3), x.childTold(2, 3));
        text(x, "hold h*f+a");
        row(of(6, 46, 10), x.childTold(0, 3), x.childTold(1, 3), x.childTold(2, 3));
        text(x, "hold h*30-a");
        row(of(90, 18, 99), x.childTold(0, 3), x.childTold(1, 3), x.childTold(2, 3));
        text(x, "hold h-9");
        row(of(1, 1, 1), x.childTold(0, 3), x.childTold(1, 3), x.childTold(2, 3));
        x.sorts(0, 1);
        text(x, "hold f*10+3");
        due(13, x.childTold(0, 3));
        // There is no paper left: it is plain.
        x.go(1);
        due(3, x.childTold(0, 3));
    }

    private static void lays() {
        ParcelRing x = ring(3, 4);
        due(3, x.lays(0, 0, 9));
        due(9, x.lays(0, 0, 1));
        due(0, x.lays(1, 1, 99), x.lays(1, 2, 1), x.lays(0, 2, 0));
        due(99, x.lays(1, 1, 0));
        due(1, x.lays(1, 2, 1), x.lays(1, 2, 0));
        due(BAD, x.lays(0, 0, 0), x.lays(0, 0, 10), x.lays(0, 1, -1), x.lays(0, 1, 100), x.lays(0, 2, -1), x.lays(0, 2, 2));
        due(BAD, x.lays(-1, 0, 1), x.lays(2, 0, 1), x.lays(0, -1, 1), x.lays(0, 3, 1), x.lays(MAX, MIN, 1));
        row(of(1, 0, 0), x.childTold(0, 0), x.childTold(0, 1), x.childTold(0, 2));
    }

    private static void paper() {
        ParcelRing x = new ParcelRing();
        due(BAD, x.paper(-1), x.paper(3), x.paper(MIN));
        for (int i = 0; i < 20; i++) due(i, x.paper(i % 3));
        due(FULL, x.paper(0));
        due(BAD, x.paper(3));
        due(20, x.count(3));
        row(of(0, 1, 2, 1), x.sorts(0, 0), x.sorts(1, 0), x.sorts(2, 0), x.sorts(19, 0));
    }

    private static void sorts() {
        ParcelRing x = new ParcelRing();
        due(BAD, x.sorts(0, 0));
        papers(x, 1, 2);
        due(1, x.sorts(0, 0));
        due(0, x.sorts(0, 2));
        due(2, x.sorts(0, 2), x.sorts(1, 1));
        due(BAD, x.sorts(2, 0), x.sorts(-1, 0), x.sorts(0, 3), x.sorts(0, -1), x.sorts(MAX, 0));
    }

    private static void rule() {
        ParcelRing x = new ParcelRing();
        due(BAD, x.rule(2, 0));
        x.child(1);
        x.child(1);
        due(0, x.rule(0, 1), x.rule(2, 1));
        due(1, x.rule(0, 0), x.rule(1, 0), x.rule(2, 0));
        due(0, x.rule(1, 1));
        due(BAD, x.rule(0, 2), x.rule(0, -1), x.rule(1, 2), x.rule(1, -1), x.rule(2, 2), x.rule(2, -1), x.rule(3, 0), x.rule(-1, 0));
        x.lays(1, 2, 1);
        due(0, x.rule(2, 1));
        row(of(1, 1, 0), x.count(5), x.count(6), x.count(7));
    }

    private static void stop() {
        ParcelRing x = new ParcelRing();
        due(BAD, x.stop(-1, 0, 0), x.stop(6, 0, 0), x.stop(0, -1, 0), x.stop(0, 100, 0), x.stop(0, 0, -1), x.stop(0, 0, 10));
        for (int i = 0; i < 10; i++) due(i, x.stop(i % 6, 99 - i, 9 - i));
        due(FULL, x.stop(0, 0, 0));
        due(BAD, x.stop(6, 0, 0));
        for (int i = 0; i < 10; i++) row(of(i % 6, 99 - i, 9 - i), x.told(i, 0), x.told(i, 1), x.told(i, 2));
    }

    private static void told() {
        ParcelRing x = new ParcelRing();
        for (int kind = 0; kind < 6; kind++) x.stop(kind, 10, 7);
        for (int kind = 0; kind < 6; kind++) row(of(kind, 10, 7), x.told(kind, 0), x.told(kind, 1), x.told(kind, 2));
        row(of(10, 10, 10, 10, 10, 9), x.told(0, 3), x.told(1, 3), x.told(2, 3), x.told(3, 3), x.told(4, 3), x.told(5, 3));
        row(of(10, 19, 10, 19, 10, 9), x.told(0, 4), x.told(1, 4), x.told(2, 4), x.told(3, 4), x.told(4, 4), x.told(5, 4));
        row(of(10, 19, 89, 38, 84, 4), x.told(0, 5), x.told(1, 5), x.told(2, 5), x.told(3, 5), x.told(4, 5), x.told(5, 5));
        due(BAD, x.told(0, -1), x.told(0, 6), x.told(-1, 0), x.told(6, 0), x.told(MIN, MIN));
        x.set(5, 1, 0);
        x.set(4, 1, 99);
        due(0, x.told(5, 3));
        due(-5, x.told(4, 5));
        // By a text: within 0 .. 999, then x more, or 1 less.
        text(x, "stop s*1000");
        row(of(999, 999, 999, 999), x.told(0, 3), x.told(1, 3), x.told(3, 3), x.told(0, 4));
        row(of(1008, 1008, 0), x.told(1, 4), x.told(3, 4), x.told(5, 3));
        x.set(5, 1, 1);
        due(998, x.told(5, 3));
        text(x, "stop s-1000");
        row(of(0, 0, 9, 9, 0), x.told(0, 3), x.told(1, 3), x.told(1, 4), x.told(3, 4), x.told(5, 4));
        row(of(10, 19), x.told(0, 5), x.told(1, 5));
    }

    private static void as() {
        ParcelRing x = new ParcelRing();
        for (int kind = 0; kind < 6; kind++) x.stop(kind, 10 + kind, 0);
        int[][] under = {{0}, {0, 1}, {0, 2}, {0, 1, 3}, {0, 2, 4}, {0, 5}};
        for (int s = 0; s < 6; s++) {
            for (int kind = 0; kind < 6; kind++) {
                int k = kind;
                due(Arrays.stream(under[s]).anyMatch(u -> u == k) ? 10 + s : KIND, x.as(s, kind));
            }
        }
        due(BAD, x.as(6, 0), x.as(-1, 0), x.as(0, 6), x.as(0, -1));
    }

    private static void turns() {
        ParcelRing x = new ParcelRing();
        x.stop(0, 5, 6);
        for (int kind = 1; kind < 6; kind++) due(kind - 1, x.turns(0, kind));
        row(of(5, 5, 6, 4), x.told(0, 0), x.told(0, 1), x.told(0, 2), x.told(0, 5));
        due(BAD, x.turns(0, 6), x.turns(0, -1), x.turns(1, 0), x.turns(-1, 0));
        due(5, x.turns(0, 5));
    }

    private static void set() {
        ParcelRing x = new ParcelRing();
        x.stop(1, 5, 6);
        due(5, x.set(0, 1, 99));
        due(99, x.set(0, 1, 0));
        due(6, x.set(0, 2, 9));
        due(9, x.set(0, 2, 0));
        due(BAD, x.set(0, 1, 100), x.set(0, 1, -1), x.set(0, 2, 10), x.set(0, 2, -1), x.set(0, 0, 0), x.set(0, 3, 0), x.set(1, 1, 0), x.set(-1, 1, 0));
        row(of(1, 0, 0), x.told(0, 0), x.told(0, 1), x.told(0, 2));
    }

    private static void deal() {
        ParcelRing x = new ParcelRing();
        due(BAD, x.deal(0), x.deal(11), x.deal(-1), x.deal(MIN));
        due(1, x.count(15));
        x.seed(99);
        due(2, x.deal(2));
        int[] d = drawn(99, 6);
        row(of(d[0] % 6, d[1] % 60, d[2] % 10, d[3] % 6, d[4] % 60, d[5] % 10),
            x.told(0, 0), x.told(0, 1), x.told(0, 2), x.told(1, 0), x.told(1, 1), x.told(1, 2));
        due(8, x.deal(10));
        int z = x.count(15);
        due(0, x.deal(1), x.deal(10));
        due(z, x.count(15));
        due(BAD, x.deal(11));
        due(10, x.count(2));
    }

    private static void seed() {
        ParcelRing x = new ParcelRing();
        due(1, x.seed(MIN));
        due(MIN, x.seed(MAX));
        due(MAX, x.seed(0));
        due(0, x.count(15));
    }

    private static void lands() {
        ParcelRing x = ring(3, 2, 5);
        row(of(0, 0, 1, 1, 2, 2), x.lands(0), x.lands(2), x.lands(3), x.lands(4), x.lands(5), x.lands(9));
        row(of(0, 0, 1, 2), x.lands(10), x.lands(12), x.lands(13), x.lands(9999));
        due(BAD, x.lands(-1), x.lands(10000), x.lands(MIN), x.lands(MAX));
        x.rule(1, 0);
        row(of(0, 2, 2, 1, 0), x.lands(2), x.lands(3), x.lands(7), x.lands(8), x.lands(10));
        // The one AT is not IN: it begins with NEXT of it.
        x.lays(0, 2, 1);
        row(of(2, 2, 1, 2), x.lands(0), x.lands(4), x.lands(5), x.lands(7));
        x.rule(1, 1);
        row(of(1, 2), x.lands(0), x.lands(2));
        x.lays(1, 2, 1);
        row(of(2, 2), x.lands(0), x.lands(777));
        x.lays(2, 2, 1);
        due(NONE, x.lands(0));
        due(BAD, x.lands(10000));
        due(NONE, new ParcelRing().lands(0));
    }

    private static void round() {
        due(0, new ParcelRing().round());
        ParcelRing x = ring(3, 2, 9);
        due(14, x.round());
        x.lays(2, 2, 1);
        due(5, x.round());
        x.paper(2);
        due(2, x.round());
        text(x, "hold h*50");
        due(198, x.round());
        x.lays(0, 2, 1);
        x.lays(1, 2, 1);
        due(0, x.round());
    }

    private static void go() {
        ParcelRing x = ring(3, 2, 5);
        due(BAD, x.go(0), x.go(101), x.go(-1), x.go(MAX));
        // No stops: taken is one more alone, the papers too.
        papers(x, 1, 2, 1, 2, 0, 1);
        due(0, x.go(1));
        row(of(1, 0, 0, 0, 1), x.count(4), x.count(8), x.count(9), x.count(10), x.count(15));
        // The paper is a forfeit: each holds 1, behind 4 seconds it is with 1; then the way turns.
        x.stop(0, 4, 0);
        due(1, x.go(1));
        row(of(2, 1, 0, 4, 0, 1), x.count(4), x.count(5), x.count(6), x.count(8), x.count(9), x.count(10));
        row(of(0, 1, 0), hads(x));
        // A sweet: from 1 for 2 seconds, then 0 for 3 (the way is 0): behind 4 with 0.
        due(0, x.go(1));
        row(of(3, 0, 0, 8, 1, 1), x.count(4), x.count(5), x.count(6), x.count(8), x.count(9), x.count(10));
        // A forfeit again: 0, 2, 1, 0, 2.
        due(2, x.go(1));
        row(of(4, 2, 1, 12, 1, 2), x.count(4), x.count(5), x.count(6), x.count(8), x.count(9), x.count(10));
        row(of(1, 1, 1), hads(x));
        kindsGo();
        ruleGoes();
        boundsGo();
    }

    private static void kindsGo() {
        // A lot: x is the rest of the draw by 10; snatched: a lot, and NEXT of it.
        int x1 = drawn(5, 2)[0] % 10, x2 = drawn(5, 2)[1] % 10;
        ParcelRing x = ring(1, 1, 1, 1, 1);
        x.seed(5);
        x.stop(1, 3, 0);
        x.stop(3, 4, 0);
        due((3 + x1) % 5, x.go(1));
        due(3 + x1, x.count(8));
        due((3 + x1 + 4 + x2 + 1) % 5, x.go(1));
        due(7 + x1 + x2, x.count(8));
        // Evening: from where it lands on by the way, the first with the fewest.
        x = ring(1, 1, 1, 1);
        x.stop(2, 2, 0);
        x.lays(2, 1, 5);
        x.lays(3, 1, 4);
        x.lays(1, 1, 4);
        x.lays(0, 1, 4);
        row(of(3, 1, 0), x.behind(1, 0), x.behind(2, 0), x.behind(3, 0));
        x.rule(1, 0);
        due(1, x.behind(1, 0));
        x.lays(2, 1, 4);
        due(2, x.behind(1, 0));
        x.lays(2, 2, 1);
        x.lays(2, 1, 0);
        due(1, x.behind(1, 0));
        // Wished: the wish, if it is IN, else as evening.
        x.turns(0, 4);
        x.set(0, 2, 3);
        due(3, x.behind(1, 0), x.behind(9, 0));
        x.set(0, 2, 2);
        due(1, x.behind(1, 0));
        x.set(0, 2, 9);
        due(1, x.behind(1, 0));
        // Held on to: one second less.
        x = ring(1, 1, 1, 1);
        x.stop(5, 2, 0);
        due(1, x.go(1));
        due(1, x.count(8));
        x.set(0, 1, 0);
        due(1, x.go(1));
        due(1, x.count(8));
        // One alone who is snatched from is next to itself.
        x = ring(4);
        x.stop(3, 9, 0);
        due(0, x.go(1));
        row(of(1), hads(x));
    }

    private static void ruleGoes() {
        ParcelRing x = ring(1, 1, 1, 1);
        x.stop(0, 1, 0);
        x.rule(0, 1);
        due(1, x.go(1));
        row(of(1, 3), x.childTold(1, 2), x.count(1));
        // The one AT is out: it begins with 2, lands on 3.
        due(3, x.go(1));
        row(of(1, 2), x.childTold(3, 2), x.count(1));
        due(2, x.go(1));
        due(2, x.count(1));
        row(of(0, 1, 1, 1), hads(x));
        // Nobody is in: taken alone, no draw.
        for (int i = 0; i < 4; i++) x.lays(i, 2, 1);
        x.turns(0, 1);
        due(2, x.go(5));
        row(of(8, 3, 1), x.count(4), x.count(8), x.count(15));
    }

    private static void boundsGo() {
        ParcelRing x = ring(2, 3);
        x.stop(0, 2, 0);
        for (int i = 0; i < 99; i++) x.go(100);
        due(9900, x.count(4));
        row(of(0, 99), hads(x));
        x.go(98);
        due(9998, x.count(4));
        // Only one turn more is taken; then none, though what is only thought goes on.
        x.turns(0, 1);
        x.go(100);
        int time = x.count(8), z = x.count(15);
        due(9999, x.count(4));
        due(9998 * 2 + 2 + drawn(1, 1)[0] % 10, time);
        int at = x.count(5);
        due(at, x.go(1), x.go(100));
        row(of(9999, time, z), x.count(4), x.count(8), x.count(15));
        x.turns(0, 0);
        due(time + 6, x.behind(3, 3));
    }

    private static void odds() {
        ParcelRing x = ring(3, 2, 5);
        due(NO, x.odds(0));
        due(BAD, x.odds(3), x.odds(-1));
        x.stop(0, 4, 0);
        row(of(0, 10, 0), x.odds(0), x.odds(1), x.odds(2));
        x.turns(0, 1);
        // Seconds 4 .. 13: 4 with 1, 5 .. 9 with 2, 10 .. 12 with 0, 13 with 1.
        row(of(3, 2, 5), x.odds(0), x.odds(1), x.odds(2));
        x.turns(0, 3);
        row(of(5, 3, 2), x.odds(0), x.odds(1), x.odds(2));
        row(of(1, 0), x.count(15), x.count(4));
        x.turns(0, 2);
        x.lays(1, 1, 1);
        row(of(0, 0, 10), x.odds(0), x.odds(1), x.odds(2));
        x.stop(0, 0, 0);
        x.go(1);
        row(of(0, 0, 10), x.odds(0), x.odds(1), x.odds(2));
        for (int i = 0; i < 3; i++) x.lays(i, 2, 1);
        due(NO, x.odds(0));
        due(BAD, x.odds(3));
        due(BAD, new ParcelRing().odds(0));
    }

    private static void behind() {
        ParcelRing x = ring(3, 2, 5);
        papers(x, 1, 2, 1);
        x.stop(0, 4, 0);
        due(BAD, x.behind(-1, 0), x.behind(101, 0), x.behind(0, -1), x.behind(0, 6), x.behind(MAX, 0));
        row(of(0, 0, 3, 0, 0, 0), x.behind(0, 0), x.behind(0, 1), x.behind(0, 2), x.behind(0, 3), x.behind(0, 4), x.behind(0, 5));
        // 1 has the sweet; then all hold 1: from 1 on 2, 0, 1, 2; the way turns: from 2 for 5 seconds.
        row(of(1, 1, 2, 4, 1, 0), x.behind(1, 0), x.behind(1, 1), x.behind(1, 2), x.behind(1, 3), x.behind(1, 4), x.behind(1, 5));
        row(of(2, 1, 1, 8, 1, 1), x.behind(2, 0), x.behind(2, 1), x.behind(2, 2), x.behind(2, 3), x.behind(2, 4), x.behind(2, 5));
        row(of(2, 2, 1, 12, 2, 1), x.behind(3, 0), x.behind(3, 1), x.behind(3, 2), x.behind(3, 3), x.behind(3, 4), x.behind(3, 5));
        // 100 turns: as if it went, and nothing changed.
        int[] thought = new int[6];
        for (int i = 0; i < 6; i++) thought[i] = x.behind(100, i);
        row(of(0, 0, 1, 0, 0, 0), x.count(4), x.count(5), x.count(6), x.count(8), x.count(9), x.count(10));
        row(of(0, 0, 0), hads(x));
        x.go(100);
        row(thought, x.count(5), x.count(11), x.behind(0, 2), x.count(8), x.count(9), x.count(10));
        // Draws are thought from z as it is.
        x.turns(0, 1);
        int z = x.count(15);
        int time = x.behind(3, 3);
        due(time, x.behind(3, 3));
        due(z, x.count(15));
        x.go(3);
        due(time, x.count(8));
    }

    private static void had() {
        ParcelRing x = ring(3, 2, 5);
        x.stop(0, 4, 0);
        // 1, then from 1 for 4 seconds: 2; from 2 for 4: 2, and so on.
        row(of(0, 1, 1), x.had(1, 0), x.had(1, 1), x.had(1, 2));
        row(of(0, 0, 1, 99), x.had(2, 0), x.had(2, 1), x.had(2, 2), x.had(2, 100));
        due(0, x.had(0, 100));
        due(BAD, x.had(3, 0), x.had(-1, 0), x.had(0, -1), x.had(0, 101));
        row(of(0, 0, 0), hads(x));
        x.lays(2, 1, 60);
        row(of(61, 99), x.had(2, 2), x.had(2, 100));
    }

    private static void all() {
        due(0, new ParcelRing().all());
        ParcelRing x = ring(1, 1, 1);
        due(NONE, x.all());
        x.stop(0, 1, 0);
        due(3, x.all());
        x.lays(1, 1, 1);
        due(3, x.all());
        x.lays(0, 1, 1);
        due(2, x.all());
        x.lays(2, 1, 1);
        due(0, x.all());
        // One who is out and has had none keeps it from ending.
        x.lays(2, 1, 0);
        x.lays(2, 2, 1);
        due(NONE, x.all());
        // Behind exactly 60 turns: of ten stops only the last, an evening, goes to one who has had none.
        ParcelRing y = ring(1, 1, 1, 1, 1, 1, 1, 1);
        for (int i = 0; i < 9; i++) y.stop(4, 0, 0);
        y.stop(2, 0, 0);
        for (int i = 0; i < 2; i++) y.lays(i, 1, 1);
        due(60, y.all());
        y.lays(1, 1, 0);
        due(NONE, y.all());
    }

    private static void evens() {
        due(0, new ParcelRing().evens(0));
        ParcelRing x = ring(1, 1);
        x.stop(2, 0, 0);
        due(BAD, x.evens(-1), x.evens(100), x.evens(MIN));
        x.lays(0, 1, 60);
        row(of(60, 59, 0, 0), x.evens(0), x.evens(1), x.evens(60), x.evens(99));
        x.lays(0, 1, 61);
        row(of(NONE, 60), x.evens(0), x.evens(1));
        x.lays(1, 2, 1);
        due(NONE, x.evens(60));
        due(0, x.evens(61));
    }

    private static void steer() {
        ParcelRing x = ring(1, 1, 1);
        due(BAD, x.steer(0, 0), x.steer(0, 31), x.steer(-1, 1), x.steer(3, 1));
        due(NONE, x.steer(0, 1), x.steer(0, 30));
        x.stop(0, 0, 0);
        // It stays with 0. With evenings from k on: 1 is the first with the fewest behind k turns if k is 1 or more.
        row(of(0, NONE, NONE), x.steer(0, 1), x.steer(1, 1), x.steer(2, 1));
        row(of(NONE, 1, NONE), x.steer(0, 2), x.steer(1, 2), x.steer(2, 2));
        row(of(NONE, 2, 1), x.steer(0, 3), x.steer(1, 3), x.steer(2, 3));
        row(of(NONE, 3, 2), x.steer(0, 4), x.steer(1, 4), x.steer(2, 4));
        due(29, x.steer(1, 30));
        // A wish counts no more, and a lot draws no more, from k on.
        x.turns(0, 4);
        x.set(0, 2, 2);
        row(of(NONE, NONE, 0), x.steer(1, 1), x.steer(2, 1), x.steer(0, 1));
        row(of(0, 1, 4), x.told(0, 2) - 2, x.steer(0, 2), x.told(0, 0));
        for (int i = 0; i < 3; i++) x.lays(i, 2, 1);
        due(NONE, x.steer(0, 3));
        due(0, x.count(4));
    }

    private static void pays() {
        ParcelRing x = ring(1, 1);
        due(BAD, x.pays(0, 0, 0), x.pays(0, 61, 0), x.pays(2, 1, 0), x.pays(-1, 1, 0), x.pays(0, 1, 2), x.pays(0, 1, -1));
        row(of(1, 0), x.pays(0, 60, 0), x.pays(0, 60, 1));
        x.stop(0, 5, 0);
        // Behind 5 seconds: with hold 1 it is with 1; 2: (5 of 3) 0 just over, 1; 3: 0 again; from 6 on it stays.
        row(of(3, 1), x.pays(0, 1, 0), x.pays(0, 1, 1));
        row(of(1, 1), x.pays(1, 1, 0), x.pays(1, 1, 1));
        // 60 papers: with 3 seconds it keeps all of them.
        row(of(3, 60), x.pays(0, 60, 0), x.pays(0, 60, 1));
        x.lays(0, 1, 50);
        row(of(3, 99), x.pays(0, 60, 0), x.pays(0, 60, 1));
        row(of(1, 50, 0), x.childTold(0, 0), x.childTold(0, 1), x.count(4));
        // Behind 8 seconds it is still there with a hold of 9 alone.
        ParcelRing y = ring(1, 9);
        y.stop(0, 8, 0);
        row(of(9, 1), y.pays(0, 1, 0), y.pays(0, 1, 1));
    }

    private static void worst() {
        ParcelRing x = ring(1, 2, 3);
        due(NONE, x.worst(1, 0), x.worst(60, 1));
        due(BAD, x.worst(0, 0), x.worst(61, 0), x.worst(1, 2), x.worst(1, -1));
        x.stop(0, 1, 0);
        papers(x, 0, 1, 0, 0);
        // 0 for 1 second: 1. 1 for 2 seconds: 1. So 1 has all of them: spread 3 behind 3.
        due(3, x.behind(3, 1));
        // If the first is a forfeit: 1, the way turns; 1 again, as it holds for 2. If the second is: 1, 2, then 2.
        row(of(1, 2), x.worst(3, 0), x.worst(3, 1));
        row(of(0, 1), x.worst(1, 0), x.worst(1, 1));
        row(of(1, 0), x.sorts(1, 1), x.count(10));
        due(BAD, x.worst(0, 0));
    }

    private static void filmed() {
        ParcelRing x = ring(2, 2, 2);
        due(BAD, x.filmed(-1, 0), x.filmed(4, 0), x.filmed(0, 2), x.filmed(0, -1));
        due(NOTHING, x.filmed(0, 0), x.filmed(3, 1));
        x.sheet(0, 1, 3);
        x.stop(0, 50, 0);
        x.stop(0, 7, 0);
        // 2, 1, 0: each time 4 or 5 seconds (it begins anew with the one who has it).
        x.mark(0, 0, 2);
        x.mark(0, 1, 1);
        x.mark(0, 2, 0);
        row(of(4, 0), x.filmed(0, 0), x.filmed(0, 1));
        x.mark(0, 2, 1);
        row(of(4, 1), x.filmed(0, 0), x.filmed(0, 1));
        x.mark(0, 2, NONE);
        x.mark(0, 1, NONE);
        x.mark(0, 0, NONE);
        row(of(0, 0), x.filmed(0, 0), x.filmed(0, 1));
        row(of(50, 7, 0), x.told(0, 1), x.told(1, 1), x.count(4));
        x.sheet(1, 0, 0);
        row(of(0, 0), x.filmed(1, 0), x.filmed(1, 1));
        // The last of the seconds that are tried.
        ParcelRing y = ring(9, 9, 9, 9, 5);
        y.stop(0, 0, 0);
        y.sheet(0, 0, 24);
        for (int i = 0; i < 24; i++) y.mark(0, i, i % 2 == 0 ? 4 : 3);
        due(36, y.filmed(0, 0));
        ParcelRing z = ring(9, 9, 9, 9, 9);
        z.stop(0, 0, 0);
        z.sheet(0, 0, 1);
        z.mark(0, 0, 4);
        row(of(36, 0), z.filmed(0, 0), z.filmed(0, 1));
        z.lays(0, 2, 1);
        z.lays(1, 0, 9);
        text(z, "hold h+4");
        row(of(39, 0), z.filmed(0, 0), z.filmed(0, 1));
        text(z, "hold h+5");
        row(of(0, 1), z.filmed(0, 0), z.filmed(0, 1));
        // 40 seconds are tried, 41 are not; all 24 places may be wrong; where nobody has it, -1 tells it.
        ParcelRing w = ring(1, 1);
        text(w, "hold h*39+1");
        w.stop(0, 0, 0);
        w.sheet(0, 0, 1);
        w.mark(0, 0, 1);
        row(of(40, 0), w.filmed(0, 0), w.filmed(0, 1));
        text(w, "hold h*40+1");
        row(of(0, 1), w.filmed(0, 0), w.filmed(0, 1));
        w.sheet(0, 1, 24);
        for (int i = 0; i < 24; i++) w.mark(0, i, 7);
        row(of(0, 24), w.filmed(0, 0), w.filmed(0, 1));
        w.lays(0, 2, 1);
        w.lays(1, 2, 1);
        row(of(0, 24), w.filmed(0, 0), w.filmed(0, 1));
        w.mark(0, 5, -1);
        row(of(0, 23), w.filmed(0, 0), w.filmed(0, 1));
    }

    private static void fine() {
        ParcelRing x = ring(3, 4);
        x.lays(1, 1, 7);
        row(of(0, 7), x.fine(0), x.fine(1));
        due(BAD, x.fine(2), x.fine(-1), x.fine(MIN));
        x.go(5);
        text(x, "fine a*10+p");
        row(of(5, 75), x.fine(0), x.fine(1));
        text(x, "fine 0-a*9999*9999*9999");
        due(-7 * 9999 * 9999 * 9999, x.fine(1));
        text(x, "hold 9");
        due(0, x.fine(0));
    }

    private static void feed() {
        ParcelRing x = new ParcelRing();
        for (int i = 1; i <= 8; i++) due(12 * i, x.feed(i, MIN, -1));
        due(FULL, x.feed(0, 0, 0));
        due(96, x.count(14));
        x.trim(85);
        due(FULL, x.feed(0, 0, 0));
        x.trim(84);
        due(96, x.feed(0, 0, 0));
        // The highest byte of each number first: "fine", " 12 ", "+ 3 ".
        x = ring(1);
        due(12, x.feed(0x66696e65, 0x20313220, 0x2b203320));
        due(0, x.text());
        due(15, x.fine(0));
        due(12, x.feed(0x66696e65, 0x20303030, 0x312b4141));
        due(-110, x.text());
    }

    private static void trim() {
        ParcelRing x = new ParcelRing();
        due(0, x.trim(0));
        due(BAD, x.trim(1), x.trim(-1));
        x.feed(0x66696e65, 0x20313233, 0x34353637);
        due(BAD, x.trim(13), x.trim(-1), x.trim(MAX));
        due(12, x.trim(12));
        due(9, x.trim(9));
        due(BAD, x.trim(10));
        due(9, x.count(14));
        due(0, x.text());
        due(0, x.trim(0), x.count(14));
    }

    private static void text() {
        good("hold h");
        good("stop s+p*t");
        good("  fine   a  ");
        good("hold(h)");
        good("hold!h");
        good("fine 0000");
        good("fine 1<2|3=4&5>6");
        good("fine " + "(".repeat(8) + "1" + ")".repeat(8));
        good("fine " + "!".repeat(8) + "1");
        good("fine " + "!(".repeat(8) + "1" + ")".repeat(8));
        good("fine (1)+((2))*(((3)))+!1-!!2");
        good("fine " + "(1)+".repeat(12) + "!1+!1+!1+!1+!1+!1+!1+!1+!1");
        good("fine " + "1+".repeat(45) + "1");
        // The end comes too soon.
        fault(0, "");
        fault(3, "   ");
        fault(4, "hold");
        fault(6, "hold  ");
        fault(7, "hold h+");
        fault(8, "hold h+ ");
        fault(7, "hold (h");
        fault(6, "hold !");
        fault(96, "fine  " + "1+".repeat(45));
        // A key that is none, a name that is none, or of another key.
        fault(0, "holds h");
        fault(0, "h");
        fault(0, "bold h");
        fault(0, "hole h");
        fault(0, "hol h");
        fault(0, "12");
        fault(1, " Hold h");
        fault(0, "holdh");
        fault(5, "hold s");
        fault(5, "stop h");
        fault(5, "fine f");
        fault(5, "fine h");
        fault(5, "fine t");
        fault(5, "hold hh");
        fault(5, "hold hold");
        // Words that need a blank, numbers that are too long, words where a sign is due.
        fault(4, "hold3");
        fault(6, "hold 3h");
        fault(6, "hold h3");
        fault(7, "hold h 3");
        fault(5, "hold 12345");
        fault(7, "hold h+00001");
        fault(10, "hold 1234 5");
        // Signs that do not fit.
        fault(5, "hold -3");
        fault(7, "hold h++h");
        fault(6, "hold h)");
        fault(6, "hold ()");
        fault(8, "hold h<h<h");
        fault(12, "hold (h<h)<h=h");
        fault(8, "hold h=h=h");
        fault(7, "hold h<=h");
        fault(6, "hold h!h");
        fault(6, "hold h(h)");
        fault(6, "hold h,");
        fault(6, "hold h\t");
        fault(6, "hold h\u0000");
        fault(6, "hold h\u00ff");
        fault(5, "hold A");
        fault(8, "hold (h))");
        // The ninth of those that are open within others, each by itself.
        fault(13, "fine " + "(".repeat(9) + "1" + ")".repeat(9));
        fault(13, "fine " + "!".repeat(9) + "1");
        fault(21, "fine " + "!(".repeat(8) + "!1" + ")".repeat(8));
        fault(21, "fine " + "!(".repeat(8) + "(1" + ")".repeat(9));
        fault(17, "fine (1)+" + "(".repeat(9));
        fault(16, "fine !1+" + "!".repeat(9));
        // The order of what binds, and what is worked out.
        gives(14, "2+3*4", 0, 0);
        gives(20, "(2+3)*4", 0, 0);
        gives(5, "9-3-1", 0, 0);
        gives(2, "9/2/2", 0, 0);
        gives(-3, "(0-7)/2", 0, 0);
        gives(0, "7/0", 0, 0);
        gives(0, "7/(a-a)+0*a", 5, 0);
        gives(1, "1+1<3", 0, 0);
        gives(0, "3<1+1", 0, 0);
        gives(1, "2<3", 0, 0);
        gives(0, "2<2", 0, 0);
        gives(0, "3<2", 0, 0);
        gives(0, "2=3", 0, 0);
        gives(1, "2=2", 0, 0);
        gives(0, "2>3", 0, 0);
        gives(0, "2>2", 0, 0);
        gives(1, "3>2", 0, 0);
        gives(9999, "9999", 0, 0);
        gives(1, "2=2&3>2", 0, 0);
        gives(1, "1|0&0", 0, 0);
        gives(0, "(1|0)&0", 0, 0);
        gives(1, "5|0", 0, 0);
        gives(1, "5&7", 0, 0);
        gives(1, "6&1", 0, 0);
        gives(0, "0|0", 0, 0);
        gives(7, "(7)", 0, 0);
        gives(0, "!7", 0, 0);
        gives(1, "!!7", 0, 0);
        gives(3, "!0*3", 0, 0);
        gives(1, "!(3<2)", 0, 0);
        gives(9999 * 9999 * 9999, "9999*9999*9999", 0, 0);
        gives(MIN, "(0-2*1024*1024*1024)/(0-1)", 0, 0);
        gives(12, "a*3+p", 3, 3);
        // One text leaves nothing behind for the next.
        ParcelRing y = ring(1);
        for (int i = 0; i < 14; i++) {
            due(i, text(y, "fine " + "1+".repeat(45) + i % 10));
            row(of(45 + i % 10, 46), y.fine(0), y.textTold(i, 1));
            due(-105, text(y, "fine x"));
        }
        // It is used up, whatever is answered; fault goes ahead of FULL.
        ParcelRing x = new ParcelRing();
        for (int i = 0; i < 14; i++) due(i, text(x, "hold " + i));
        write(x, "hold 1");
        due(FULL, x.text());
        due(0, x.count(14));
        write(x, "hold x");
        due(-105, x.text());
        due(0, x.count(14));
        due(-100, x.text());
        row(of(14, 13), x.count(12), x.why(0));
    }

    private static void textTold() {
        ParcelRing x = new ParcelRing();
        text(x, "hold h");
        text(x, "stop 12+s*(p-t)");
        text(x, "fine !(1|22|333|4444|a|p)");
        row(of(0, 1, 2), x.textTold(0, 0), x.textTold(1, 0), x.textTold(2, 0));
        row(of(1, 4, 6), x.textTold(0, 1), x.textTold(1, 1), x.textTold(2, 1));
        due(BAD, x.textTold(3, 0), x.textTold(-1, 0), x.textTold(0, 2), x.textTold(0, -1));
        text(x, "fine " + "1+".repeat(45) + "1");
        due(46, x.textTold(3, 1));
    }

    private static void why() {
        ParcelRing x = ring(4);
        due(NONE, x.why(0), x.why(1), x.why(2));
        due(BAD, x.why(3), x.why(-1), x.why(MIN));
        text(x, "hold 5");
        text(x, "hold 6");
        text(x, "fine 7");
        row(of(1, NONE, 2), x.why(0), x.why(1), x.why(2));
        x.keep();
        text(x, "stop 8");
        text(x, "hold 9");
        row(of(4, 3, 2, 9), x.why(0), x.why(1), x.why(2), x.childTold(0, 3));
        x.back();
        row(of(1, NONE, 2, 6), x.why(0), x.why(1), x.why(2), x.childTold(0, 3));
        // Texts told anew do not change those of the image.
        text(x, "hold 3");
        due(3, x.childTold(0, 3));
        x.back();
        row(of(6, 3), x.childTold(0, 3), x.count(12));
    }

    private static void sheet() {
        ParcelRing x = new ParcelRing();
        due(24, x.sheet(0, 0, 24), x.sheet(3, 1, 24));
        due(0, x.sheet(1, 0, 0), x.sheet(2, -1, 99), x.sheet(2, -1, -5), x.sheet(2, -1, MIN));
        due(BAD, x.sheet(-1, 0, 1), x.sheet(4, 0, 1), x.sheet(0, 2, 1), x.sheet(0, -2, 1), x.sheet(0, 0, 25), x.sheet(0, 1, MAX));
        due(BAD, x.sheet(4, 0, -1), x.sheet(0, 2, -1), x.sheet(4, -1, 0));
        due(SIZE, x.sheet(0, 0, -1), x.sheet(0, 1, MIN));
        due(1, x.mark(0, 23, 5));
        due(INDEX, x.mark(1, 0, 0));
        due(NOTHING, x.mark(2, 0, 0));
        x.lay(0, 2, 0);
        due(5, x.item(0, 23));
        // Made anew all is 0.
        due(24, x.sheet(0, 0, 24));
        x.lay(0, 2, 0);
        due(0, x.item(0, 23), x.item(0, 0));
        due(0, x.sheet(0, -1, 1));
        due(NOTHING, x.reads(0));
    }

    private static void mark() {
        ParcelRing x = new ParcelRing();
        x.sheet(0, 0, 3);
        x.sheet(1, 1, 3);
        due(1, x.mark(0, 0, 32768), x.mark(0, 1, 65535 + 65536), x.mark(0, 2, MIN + 7));
        due(1, x.mark(1, 0, 99999), x.mark(1, 1, -99999), x.mark(1, 2, NONE));
        due(BAD, x.mark(-1, 0, 0), x.mark(4, 0, 0), x.mark(4, 9, NONE));
        due(NOTHING, x.mark(2, 0, 0), x.mark(2, -1, NONE));
        due(INDEX, x.mark(0, 3, 0), x.mark(0, -1, NONE), x.mark(1, 3, 100000), x.mark(1, MIN, 0));
        due(KIND, x.mark(0, 0, NONE));
        due(BAD, x.mark(1, 0, 100000), x.mark(1, 0, -100000), x.mark(1, 0, MIN), x.mark(1, 0, MAX), x.mark(1, 0, NONE + 1));
        x.lay(0, 2, 0);
        x.lay(1, 2, 1);
        row(of(-32768, -1, 7), x.item(0, 0), x.item(0, 1), x.item(0, 2));
        row(of(99999, -99999, KIND), x.item(1, 0), x.item(1, 1), x.item(1, 2));
        // What is no number can become one again.
        due(1, x.mark(1, 2, 8));
        x.lay(1, 2, 1);
        due(8, x.item(1, 2));
    }

    private static void pour() {
        ParcelRing x = new ParcelRing();
        due(BAD, x.pour(-1), x.pour(4));
        due(NOTHING, x.pour(0));
        for (int i = 0; i < 6; i++) x.stop(0, 10 + i, 0);
        x.sheet(0, 1, 5);
        x.mark(0, 0, 10);
        x.mark(0, 1, 100);
        x.mark(0, 2, -7);
        x.mark(0, 3, NONE);
        x.mark(0, 4, 99);
        due(3, x.pour(0));
        row(of(10, 99, 0, 13, 99, 15), x.told(0, 1), x.told(1, 1), x.told(2, 1), x.told(3, 1), x.told(4, 1), x.told(5, 1));
        due(0, x.pour(0));
        x.sheet(1, 0, 24);
        due(5, x.pour(1));
        due(6, x.count(2));
    }

    private static void reads() {
        ParcelRing x = ring(1, 1, 1);
        due(BAD, x.reads(-1), x.reads(4));
        due(NOTHING, x.reads(0));
        x.sheet(0, 1, 0);
        due(NONE, x.reads(0));
        x.sheet(0, 1, 4);
        due(3, x.reads(0));
        x.mark(0, 3, NONE);
        due(NONE, x.reads(0));
        x.lays(1, 1, 5);
        due(1, x.reads(0));
        x.mark(0, 1, 5);
        x.lays(2, 1, 9);
        due(2, x.reads(0));
        x.mark(0, 2, NONE);
        due(NONE, x.reads(0));
        x.mark(0, 0, -1);
        due(0, x.reads(0));
    }

    private static void copy() {
        ParcelRing x = new ParcelRing();
        x.sheet(0, 0, 5);
        x.sheet(1, 0, 3);
        x.sheet(2, 1, 3);
        for (int i = 0; i < 5; i++) x.mark(0, i, i + 1);
        due(BAD, x.copy(-1, 0, 0, 0, 0), x.copy(0, 0, 4, 0, 0), x.copy(4, 0, 3, 0, 0), x.copy(3, 0, -1, 0, 0));
        due(NOTHING, x.copy(3, 0, 0, 0, 0), x.copy(0, 9, 3, 9, 9), x.copy(3, 0, 2, 0, -1));
        due(KIND, x.copy(0, 0, 2, 0, 0), x.copy(2, -1, 0, 0, 99));
        due(INDEX, x.copy(0, 0, 1, 0, 4), x.copy(0, 3, 1, 0, 3), x.copy(0, 0, 1, 1, 3), x.copy(0, -1, 1, 0, 1), x.copy(0, 0, 1, -1, 1));
        due(INDEX, x.copy(0, 0, 1, 0, -1), x.copy(0, MAX, 1, 0, MAX), x.copy(0, 0, 1, MIN, MIN), x.copy(0, 6, 1, 0, 0), x.copy(0, 1, 1, 0, MAX));
        due(0, x.copy(0, 5, 1, 3, 0), x.copy(0, 0, 1, 0, 0));
        due(2, x.copy(0, 3, 1, 1, 2));
        x.lay(1, 2, 1);
        row(of(0, 4, 5), x.item(1, 0), x.item(1, 1), x.item(1, 2));
        // Over itself, in both directions, as they were.
        due(4, x.copy(0, 0, 0, 1, 4));
        x.lay(0, 2, 0);
        row(of(1, 1, 2, 3, 4), x.item(0, 0), x.item(0, 1), x.item(0, 2), x.item(0, 3), x.item(0, 4));
        due(3, x.copy(0, 2, 0, 0, 3));
        x.lay(0, 2, 0);
        row(of(2, 3, 4, 3, 4), x.item(0, 0), x.item(0, 1), x.item(0, 2), x.item(0, 3), x.item(0, 4));
        // NO NUMBER comes along.
        x.sheet(3, 1, 1);
        x.mark(3, 0, NONE);
        due(1, x.copy(3, 0, 2, 2, 1));
        x.lay(2, 2, 2);
        row(of(0, KIND), x.item(2, 1), x.item(2, 2));
    }

    private static void lay() {
        ParcelRing x = new ParcelRing();
        x.stop(1, 7, 0);
        x.sheet(2, 0, 2);
        due(BAD, x.lay(-1, 0, 0), x.lay(5, 0, 0), x.lay(0, -1, 0), x.lay(0, 4, 0), x.lay(0, 1, 1), x.lay(0, 1, -1), x.lay(0, 2, 4), x.lay(0, 2, -1));
        due(NOTHING, x.lay(0, 2, 0));
        due(0, x.lay(0, 0, MIN), x.lay(0, 3, MIN));
        due(3, x.lay(0, 1, 0));
        due(1, x.lay(0, 2, 2));
        due(2, x.lay(0, 0, 99));
        due(0, x.lay(0, 3, 5));
        // What is refused changes nothing.
        due(NOTHING, x.lay(0, 2, 0));
        due(5, x.rest(0, 9));
        // A stop is held as it was, for good; a sheet is a row of its own.
        x.lay(1, 1, 0);
        x.lay(2, 2, 2);
        x.turns(0, 2);
        x.set(0, 1, 50);
        x.mark(2, 0, 9);
        x.sheet(2, -1, 0);
        row(of(16, 0, 0), x.ask(1, 1), x.item(2, 0), x.item(2, 1));
        x.keep();
        x.back();
        row(of(16, 0), x.ask(1, 0), x.item(2, 0));
    }

    private static void ask() {
        ParcelRing x = new ParcelRing();
        for (int kind = 0; kind < 5; kind++) {
            x.stop(kind, 10, 0);
            x.lay(kind, 1, kind);
        }
        row(of(10, 19, 89, 38, 84), x.ask(0, 0), x.ask(1, 0), x.ask(2, 0), x.ask(3, 0), x.ask(4, 0));
        row(of(KIND, 19, KIND, 38, KIND), x.ask(0, 1), x.ask(1, 1), x.ask(2, 1), x.ask(3, 1), x.ask(4, 1));
        row(of(KIND, KIND, 89, KIND, 84), x.ask(0, 2), x.ask(1, 2), x.ask(2, 2), x.ask(3, 2), x.ask(4, 2));
        row(of(KIND, KIND, KIND, 38, 84), x.ask(0, 3), x.ask(1, 3), x.ask(2, 4), x.ask(3, 3), x.ask(4, 4));
        x.turns(0, 5);
        x.lay(0, 1, 0);
        row(of(4, 4, KIND), x.ask(0, 5), x.ask(0, 0), x.ask(0, 1));
        x.lay(0, 3, 1);
        x.sheet(0, 0, 1);
        x.lay(1, 2, 0);
        x.lay(2, 0, 0);
        row(of(KIND, KIND, NOTHING), x.ask(0, 0), x.ask(1, 0), x.ask(2, 0));
        due(BAD, x.ask(-1, 0), x.ask(5, 0), x.ask(0, 6), x.ask(2, -1));
    }

    private static void item() {
        ParcelRing x = new ParcelRing();
        x.sheet(0, 1, 2);
        x.mark(0, 0, -12345);
        x.mark(0, 1, NONE);
        x.lay(0, 2, 0);
        x.lay(1, 3, 0);
        row(of(-12345, KIND, INDEX, INDEX), x.item(0, 0), x.item(0, 1), x.item(0, 2), x.item(0, -1));
        due(KIND, x.item(1, 0), x.item(1, -1));
        due(NOTHING, x.item(2, 0), x.item(2, MIN));
        due(BAD, x.item(-1, 0), x.item(5, 0), x.item(5, -1));
        x.stop(0, 0, 0);
        x.lay(0, 1, 0);
        due(KIND, x.item(0, 0));
        x.sheet(0, 0, 0);
        x.lay(0, 2, 0);
        due(INDEX, x.item(0, 0));
    }

    private static void rest() {
        ParcelRing x = new ParcelRing();
        x.stop(0, 0, 0);
        x.sheet(0, 0, 1);
        x.lay(0, 3, -17);
        x.lay(1, 1, 0);
        x.lay(2, 2, 0);
        x.lay(4, 3, MIN);
        row(of(-2, -2, NO, -17, 0), x.rest(0, 5), x.rest(0, -5), x.rest(0, 0), x.rest(0, MAX), x.rest(0, 1));
        due(0, x.rest(4, -1), x.rest(4, MIN));
        due(KIND, x.rest(1, 0), x.rest(2, 3));
        due(NOTHING, x.rest(3, 0));
        due(BAD, x.rest(5, 0), x.rest(-1, 1));
    }

    private static void tell() {
        ParcelRing x = new ParcelRing();
        for (int i = 1; i <= 60; i++) due(i, x.tell(MIN + i));
        due(FULL, x.tell(0), x.tell(1));
        due(60, x.count(13));
    }

    private static void check() {
        ParcelRing x = ring(1, 1, 1);
        x.stop(0, 1, 0);
        x.tell(0);
        due(BAD, x.check(0));
        due(0, x.count(13));
        x.tell(0);
        due(NO, x.check(30));
        due(0, x.count(13));
        x.keep();
        x.go(50);
        due(BAD, x.check(31), x.check(-1), x.check(MIN));
        // 1 has the first: spread 1; 2 the second: 1; 0 the third: 0.
        int[] rows = {1, 1, 2, 1, 0, 0};
        due(0, told(x, 3, rows));
        due(0, told(x, 1, 1, 1));
        due(7, told(x, 4, rows));
        due(5, told(x, 2, rows));
        due(1, told(x, 3));
        due(6, told(x, 3, 1, 1, 2, 1, 0));
        due(6, told(x, 3, 1, 1, 2, 1, 0, 1));
        due(1, told(x, 3, 0, 1, 2, 1, 0, 0));
        due(50, x.count(4));
        // Nobody has it.
        ParcelRing y = ring(1, 1);
        y.lays(1, 1, 3);
        y.keep();
        due(0, told(y, 2, -1, 3, -1, 3));
        due(1, told(y, 2, 0, 3, -1, 3));
        // Thirty turns, sixty numbers.
        for (int i = 0; i < 30; i++) row(of(2 * i + 1, 2 * i + 2), y.tell(-1), y.tell(3));
        due(0, y.check(30));
        // Fewer, if taken would be above 9999.
        for (int i = 0; i < 99; i++) y.go(100);
        y.go(98);
        y.keep();
        due(0, told(y, 30, -1, 3));
        due(3, told(y, 30, -1, 3, -1, 3));
        y.go(1);
        y.keep();
        due(0, y.check(5));
        due(1, told(y, 5, -1));
        // By the image, its z and its texts.
        ParcelRing z = ring(1, 1, 1);
        z.stop(1, 0, 0);
        text(z, "stop 1");
        z.keep();
        int x1 = drawn(1, 1)[0] % 10;
        z.seed(77);
        text(z, "stop 2");
        z.turns(0, 0);
        z.lays(0, 1, 50);
        due(0, told(z, 1, (1 + x1) % 3, 1));
        row(of(77, 0), z.count(15), z.count(4));
    }

    private static int told(ParcelRing x, int n, int... numbers) {
        for (int number : numbers) x.tell(number);
        int answer = x.check(n);
        due(0, x.count(13));
        return answer;
    }

    private static void keep() {
        due(0, new ParcelRing().keep());
        ParcelRing x = ring(1, 2, 3);
        due(3, x.keep());
        x.child(4);
        due(4, x.keep());
        x.child(5);
        due(4, x.back());
    }

    private static void back() {
        ParcelRing x = ring(3, 4);
        due(NO, x.back());
        papers(x, 1, 2, 1);
        x.stop(1, 9, 1);
        text(x, "hold h+1");
        x.rule(0, 1);
        x.rule(2, 1);
        x.seed(55);
        x.go(3);
        x.lays(0, 2, 1);
        int[] before = state(x);
        due(2, x.keep());
        for (int again = 0; again < 2; again++) {
            x.child(9);
            x.lays(0, 0, 7);
            x.lays(0, 1, 70);
            x.lays(0, 2, 0);
            x.paper(2);
            x.sorts(0, 0);
            x.stop(0, 0, 0);
            x.turns(0, 4);
            x.set(0, 1, 77);
            x.set(0, 2, 7);
            text(x, "hold 50");
            text(x, "stop 50");
            x.rule(0, 0);
            x.rule(1, 1 - x.count(6));
            x.rule(2, 2);
            x.seed(56);
            x.go(20);
            due(2, x.back());
            row(before, state(x));
            row(of(1, 2, 1), x.sorts(0, 1), x.sorts(1, 2), x.sorts(2, 1));
            row(of(1, 9, 1), x.told(0, 0), x.told(0, 1), x.told(0, 2));
            row(of(3, 1, 4), x.childTold(0, 0), x.childTold(0, 2), x.childTold(0, 3));
        }
        // What an image does not keep stays as it is.
        x.sheet(0, 0, 1);
        x.mark(0, 0, 6);
        x.lay(0, 3, 6);
        x.tell(4);
        x.feed(0, 0, 0);
        x.back();
        row(of(1, 12, 6), x.count(13), x.count(14), x.rest(0, 10));
        x.lay(0, 2, 0);
        due(6, x.item(0, 0));
    }

    private static int[] state(ParcelRing x) {
        int[] state = new int[18];
        for (int i = 0; i < 16; i++) state[i] = x.count(i);
        state[16] = x.childTold(0, 1);
        state[17] = x.why(0) * 100 + x.why(1);
        return state;
    }

    private static void count() {
        ParcelRing x = ring(1, 2, 3);
        papers(x, 1, 2, 2, 2, 0);
        x.stop(0, 1, 0);
        x.stop(0, 2, 0);
        x.rule(0, 1);
        text(x, "fine 1");
        x.tell(9);
        x.tell(9);
        x.feed(1, 2, 3);
        x.seed(-5);
        x.go(3);
        int[] counts = new int[16];
        for (int i = 0; i < 16; i++) counts[i] = x.count(i);
        // 1 has the sweet and is out; then 1 s each, from 2 on: 2 (the way turns), then 0 (it turns again).
        row(of(3, 2, 2, 5, 3, 0, 1, 1, 4, 1, 2, 0, 1, 2, 12, -5), counts);
        due(BAD, x.count(-1), x.count(16), x.count(MIN), x.count(MAX));
        x.lays(2, 1, 9);
        due(8, x.count(11));
    }
}
