/** Promises 28 to 32 at their edges: each method holds one sentence of the document, told above it. */
public final class BoundaryTextsTest extends Checks {
    public static void main(String[] args) throws Exception {
        run(BoundaryTextsTest.class, 28, 32);
    }

    // ---- feed

    // "THE TAPE (96 bytes at most)": eight times twelve come
    static void promise28_ninetySixBytesCome() {
        ParcelRing x = new ParcelRing();
        for (int i = 1; i <= 8; i++) due(12 * i, x.feed(MIN, 0, MAX));
        due(96, x.count(14));
    }

    // "FULL: it would have more than 96"
    static void promise28_moreThan96IsFull() {
        refused(FULL, x -> x.feed(0, 0, 0), x -> x.feed(MIN, -1, MAX));
    }

    // With 85 there is room for eleven alone: none of twelve come; with 84 all do.
    static void promise28_withRoomForElevenNoneCome() {
        ParcelRing x = full();
        due(85, x.trim(85));
        due(FULL, x.feed(0, 0, 0));
        due(85, x.count(14));
        due(84, x.trim(84));
        due(96, x.feed(0x20202020, 0x20202020, 0x20202020));
        due(13, x.text());
    }

    // "the highest of each number first"
    static void promise28_theHighestByteFirst() {
        ParcelRing x = ring(1);
        // "fine", " 987", "6-54"
        x.feed(0x66696e65, 0x20393837, 0x362d3534);
        due(0, x.text());
        due(9822, x.fine(0));
    }

    // Bytes above 127 are bytes, not numbers below 0: each is a sign by itself.
    static void promise28_bytesAbove127() {
        ParcelRing x = new ParcelRing();
        x.feed(-1, -1, -1);
        due(-100, x.text());
        x.feed(0x66696e65, 0x2031ff00, 0);
        due(-106, x.text());
        x.feed(0x66696e65, 0x20312080, 0);
        due(-107, x.text());
        // 160 is no blank, though its lowest bits are 32.
        x.feed(0x66696e65, 0xa0312020, 0x20202020);
        due(-104, x.text());
    }

    // ---- trim

    // "keeps its first n bytes": n below 0
    static void promise29_below0IsBad() {
        refused(BAD, x -> x.trim(-1), x -> x.trim(MIN));
        due(BAD, new ParcelRing().trim(-1));
    }

    // It has not so many.
    static void promise29_moreThanItHasIsBad() {
        refused(BAD, x -> x.trim(97), x -> x.trim(MAX));
        ParcelRing x = new ParcelRing();
        due(BAD, x.trim(1));
        x.feed(0, 0, 0);
        due(BAD, x.trim(13));
        due(12, x.count(14));
        x.trim(5);
        due(BAD, x.trim(6));
        due(5, x.count(14));
    }

    // All of them, or none.
    static void promise29_allOrNone() {
        ParcelRing x = full();
        row(of(96, 96), x.trim(96), x.count(14));
        row(of(0, 0, 0), x.trim(0), x.trim(0), x.count(14));
        due(-100, x.text());
        due(0, new ParcelRing().trim(0));
    }

    // "its first n": the others are gone, what comes then stands right behind
    static void promise29_theFirstStay() {
        ParcelRing x = ring(1);
        x.feed(0x66696e65, 0x20312b32, 0x2b332b34);
        due(7, x.trim(7));
        x.feed(0x35202020, 0x20202020, 0x20202020);
        due(19, x.count(14));
        due(0, x.text());
        due(6, x.fine(0));
    }

    // ---- text: the tape

    // "an act that reads it uses it up, whatever it answers": a TEXT, a FAULT, FULL
    static void promise30_theTapeIsUsedUp() {
        ParcelRing x = full();
        row(of(13, 0), x.text(), x.count(14));
        write(x, "hold 1 ");
        row(of(FULL, 0), x.text(), x.count(14));
        write(x, "hold x ");
        row(of(-105, 0), x.text(), x.count(14));
        due(-100, x.text(), x.text());
    }

    // "TEXTS, 14 at most, numbered from 0"
    static void promise30_theFourteenthComes() {
        ParcelRing x = ring(1);
        for (int i = 0; i < 14; i++) due(i, text(x, "fine " + i));
        row(of(14, 13, 13), x.count(12), x.why(2), x.fine(0));
    }

    // "FULL": the fifteenth; it changes nothing but the tape
    static void promise30_theFifteenthIsFull() {
        ParcelRing x = ring(1);
        for (int i = 0; i < 14; i++) text(x, "fine " + i);
        due(FULL, text(x, "fine 99"), text(x, "hold 9"));
        row(of(14, 13, 13, 1), x.count(12), x.why(2), x.fine(0), x.childTold(0, 3));
    }

    // "-100 less the place of its FAULT; FULL": a FAULT stands first
    static void promise30_aFaultStandsAheadOfFull() {
        ParcelRing x = new ParcelRing();
        for (int i = 0; i < 14; i++) text(x, "fine 1");
        due(-105, text(x, "fine +"));
        due(-100, text(x, ""));
        due(FULL, text(x, "fine 1"));
    }

    // A FAULT changes nothing but the tape.
    static void promise30_aFaultChangesNothing() {
        ParcelRing x = full();
        ParcelRing y = full();
        write(x, "hold h+");
        due(-107, x.text());
        y.trim(0);
        write(y, "");
        due(0, x.count(14), y.count(14));
        row(everything(y), everything(x));
    }

    // "uses it up": a TEXT has nothing of the longest one that came ahead of it
    static void promise30_nothingIsLeftOfTheLastText() {
        ParcelRing x = ring(1);
        for (int i = 0; i < 14; i++) {
            due(i, text(x, "fine " + "1+".repeat(45) + i % 10));
            row(of(45 + i % 10, 46), x.fine(0), x.textTold(i, 1));
        }
    }

    // Behind a FAULT, in whatever word or sign it was, a TEXT begins anew: its first word needs no blank.
    static void promise30_nothingIsLeftOfAFault() {
        String[] faults = {"hold h 3", "hold 3 h", "hold hh", "hold 12345", "hold h)", "hold (", "hol", "", "hold3"};
        ParcelRing x = new ParcelRing();
        for (int i = 0; i < faults.length; i++) {
            due(-100, text(x, faults[i]) < -99 ? -100 : 0);
            due(i, text(x, "fine 1"));
            due(1, x.textTold(i, 1));
        }
    }

    // "96 bytes": a TEXT that fills the tape, and the FAULT behind its last byte
    static void promise30_aTextOf96Bytes() {
        ParcelRing x = ring(1);
        due(0, text(x, "fine  " + "1+".repeat(44) + "17"));
        row(of(61, 45), x.fine(0), x.textTold(0, 1));
        fault(96, "fine  " + "1+".repeat(45));
        fault(95, "fine 1" + " ".repeat(89) + "2");
        good("fine" + " ".repeat(91) + "7");
        fault(96, " ".repeat(96));
    }

    // ---- text: words, signs, blanks

    // "the end (the place behind the last byte), if it comes too soon": blanks at the end are ahead of it
    static void promise30_theEndTooSoon() {
        fault(0, "");
        fault(1, " ");
        fault(4, "hold");
        fault(9, "hold     ");
        fault(7, "hold h+");
        fault(9, "hold h+  ");
        fault(6, "hold (");
        fault(7, "hold (h");
        fault(9, "hold (h  ");
        fault(6, "hold !");
        fault(7, "hold h<");
        fault(7, "hold h|");
        fault(7, "hold h&");
        fault(7, "hold h*");
    }

    // "Between words and signs, and at the ends, there may be blanks": none, one, many
    static void promise30_blanksBetween() {
        good("fine(1)");
        good("fine!1");
        good("fine 1+2");
        good("   fine   1   +   ( !  2 )   ");
        good("fine 1 < 2");
    }

    // "(byte 32)": no other byte is a blank
    static void promise30_otherBytesAreNoBlanks() {
        fault(4, "fine\t1");
        fault(6, "fine 1\n");
        fault(6, "fine 1\u0000");
        fault(6, "fine 1\u00a0");
        fault(6, "fine 1\u001f");
        fault(6, "fine 1!");
        fault(0, "\u0000fine 1");
    }

    // "a word right behind another one needs one": FAULT at "a word that needs a blank ahead of it"
    static void promise30_aWordRightBehindAnother() {
        fault(4, "hold5");
        fault(4, "hold12345");
        good("hold 5");
        fault(6, "hold 5h");
        fault(6, "hold h5");
        fault(9, "hold 1234h");
        fault(7, "hold 5 h");
        fault(7, "hold h 5");
    }

    // "A word is a row of letters a .. z, or of digits, as long as it goes": it is one word, whatever begins it
    static void promise30_aWordGoesAsLongAsItGoes() {
        fault(0, "holdh");
        fault(0, "holdhold h");
        fault(5, "hold hh");
        fault(5, "hold ha");
        fault(7, "hold 1+hold");
        fault(0, "hol d h");
        fault(0, "ho ld h");
    }

    // "letters a .. z": the bytes right ahead of a and behind z, and capitals, are signs
    static void promise30_lettersAreAToZ() {
        fault(0, "`hold h");
        fault(4, "hold{h");
        fault(4, "hold`h");
        fault(5, "hold H");
        fault(0, "Hold h");
        fault(0, "HOLD h");
        fault(3, "   zold h");
        fault(6, "hold h{");
        fault(6, "hold h`");
        fault(5, "hold z");
    }

    // "of digits": the bytes right ahead of 0 and behind 9 are signs
    static void promise30_digitsAre0To9() {
        gives(9, "9", 0, 0);
        gives(0, "0", 0, 0);
        fault(6, "fine 9:");
        fault(5, "fine :9");
        fault(5, "fine /9");
        fault(7, "fine 9/");
        gives(1, "9/9", 0, 0);
    }

    // "NUMBER (1 to 4 digits)": FAULT at the first byte of one of more
    static void promise30_numbersOf1To4Digits() {
        gives(7, "7", 0, 0);
        gives(9999, "9999", 0, 0);
        gives(0, "0000", 0, 0);
        gives(12, "0012", 0, 0);
        fault(5, "fine 10000");
        fault(5, "fine 00000");
        fault(7, "fine 1+99999999999");
        fault(10, "fine 9999 9");
        gives(9999 + 9999, "9999+9999", 0, 0);
    }

    // "KEY: hold | stop | fine": nothing else comes first
    static void promise30_theKeyFirst() {
        fault(0, "h");
        fault(0, "1");
        fault(0, "(hold h)");
        fault(0, "!hold h");
        fault(0, "fin 1");
        fault(0, "fines 1");
        fault(0, "halt 1");
        fault(2, "  sto p");
        fault(5, "fine fine 1");
        fault(5, "fine = 1");
    }

    // "NAMES, each one letter: of hold h, a, f; of stop s, p, t; of fine a, p": those of another KEY are none
    static void promise30_namesOfTheirKey() {
        String[] keys = {"hold", "stop", "fine"}, names = {"haf", "spt", "ap"};
        for (int key = 0; key < 3; key++) {
            for (char c = 'a'; c <= 'z'; c++) {
                String s = keys[key] + " " + c;
                if (names[key].indexOf(c) >= 0) good(s);
                else fault(5, s);
            }
        }
    }

    // A sign where none can stand, or two of them.
    static void promise30_signsThatDoNotFit() {
        for (char c : "|&<=>+-*/)".toCharArray()) {
            fault(5, "fine " + c + "1");
            fault(7, "fine 1+" + c);
            if (c != ')') fault(7, "fine 1" + c + c + "1");
        }
        fault(6, "fine 1!1");
        fault(6, "fine 1(1)");
        fault(6, "fine ()");
        fault(6, "fine !)");
        fault(8, "fine (1)1");
        fault(8, "fine (1)(1)");
        fault(8, "fine (1)!1");
        fault(8, "fine (1))");
        fault(6, "fine 1,1");
        fault(5, "fine ~1");
    }

    // "SUM [ (< | = | >) SUM ]": one alone, unless brackets stand round it
    static void promise30_oneTestAlone() {
        for (char a : "<=>".toCharArray()) {
            good("fine 1" + a + "2");
            for (char b : "<=>".toCharArray()) {
                fault(8, "fine 1" + a + "2" + b + "3");
                good("fine (1" + a + "2)" + b + "3");
                good("fine 1" + a + "(2" + b + "3)");
                good("fine 1" + a + "2&3" + b + "4|5" + a + "6");
            }
        }
        fault(14, "fine (1<2)=(3)>4");
    }

    // ---- text: the ninth that would be open

    // "the ninth ( that would be open within others"
    static void promise30_theNinthBracket() {
        good("fine " + "(".repeat(8) + "1" + ")".repeat(8));
        fault(13, "fine " + "(".repeat(9) + "1" + ")".repeat(9));
        fault(13, "fine " + "(".repeat(20));
        // Blanks between them, and what stands ahead, change the place alone.
        fault(21, "fine " + "( ".repeat(9) + "1");
        fault(29, "fine " + "(1+".repeat(9) + "1");
    }

    // Those that are closed again do not count.
    static void promise30_closedBracketsDoNotCount() {
        good("fine " + "(1)+".repeat(20) + "1");
        good("fine " + "(".repeat(8) + "1" + ")".repeat(8) + "+" + "(".repeat(8) + "1" + ")".repeat(8));
        good("fine " + "(".repeat(8) + "1" + ")".repeat(7) + "+" + "(".repeat(7) + "1" + ")".repeat(8));
        fault(31, "fine " + "(".repeat(8) + "1" + ")".repeat(7) + "+" + "(".repeat(7) + "1+(2");
    }

    // "the ninth ! likewise"
    static void promise30_theNinthNot() {
        good("fine " + "!".repeat(8) + "1");
        fault(13, "fine " + "!".repeat(9) + "1");
        fault(21, "fine " + "! ".repeat(9) + "1");
        good("fine " + "!1+".repeat(20) + "1");
        good("fine " + "!".repeat(8) + "1+" + "!".repeat(8) + "1");
        good("fine " + "!".repeat(8) + "(1)+!1");
        fault(23, "fine " + "!".repeat(8) + "1+" + "!".repeat(9) + "1");
    }

    // A ! is open as long as its PIECE goes, through the brackets of it.
    static void promise30_aNotIsOpenThroughItsBrackets() {
        good("fine !(" + "!".repeat(7) + "1)");
        fault(14, "fine !(" + "!".repeat(8) + "1)");
        good("fine " + "!(".repeat(8) + "1" + ")".repeat(8));
        fault(21, "fine " + "!(".repeat(8) + "!1" + ")".repeat(8));
        good("fine " + "!".repeat(7) + "(1+!1+!1)+" + "!".repeat(8) + "2");
    }

    // "each by itself": eight of both may be open
    static void promise30_eachByItself() {
        good("fine " + "(".repeat(8) + "!".repeat(8) + "1" + ")".repeat(8));
        good("fine " + "!".repeat(8) + "(".repeat(8) + "1" + ")".repeat(8));
        fault(21, "fine " + "(".repeat(8) + "!".repeat(9) + "1");
        fault(21, "fine " + "!".repeat(8) + "(".repeat(9) + "1");
        fault(21, "fine " + "(".repeat(8) + "!".repeat(8) + "(1");
    }

    // ---- text: what it gives

    // "/ cuts towards 0"
    static void promise30_divisionCutsTowards0() {
        gives(3, "7/2", 0, 0);
        gives(-3, "(0-7)/2", 0, 0);
        gives(-3, "7/(0-2)", 0, 0);
        gives(3, "(0-7)/(0-2)", 0, 0);
        gives(0, "1/2", 0, 0);
        gives(0, "(0-1)/2", 0, 0);
    }

    // "/ is 0 by 0"
    static void promise30_divisionBy0() {
        gives(0, "7/0", 0, 0);
        gives(0, "0/0", 0, 0);
        gives(0, "(0-7)/0", 0, 0);
        gives(5, "7/0+5", 0, 0);
        gives(0, "7/a", 0, 0);
        gives(0, "9/0/0", 0, 0);
    }

    // "Ints wrap"
    static void promise30_intsWrap() {
        gives(MIN, "8*4096*4096*16", 0, 0);
        gives(MAX, "8*4096*4096*16-1", 0, 0);
        gives(MIN, "(8*4096*4096*16-1)+1", 0, 0);
        gives(0, "8*4096*4096*16*2", 0, 0);
        gives(MIN, "8*4096*4096*16/(0-1)", 0, 0);
        gives(MIN, "0-8*4096*4096*16", 0, 0);
    }

    // "tests .. give 1 or 0": just ahead, the same, just over
    static void promise30_testsGive1Or0() {
        for (int a = 4; a <= 6; a++) {
            gives(a < 5 ? 1 : 0, a + "<5", 0, 0);
            gives(a == 5 ? 1 : 0, a + "=5", 0, 0);
            gives(a > 5 ? 1 : 0, a + ">5", 0, 0);
        }
        gives(1, "0-1<0", 0, 0);
        gives(1, "8*4096*4096*16<0", 0, 0);
        gives(1, "8*4096*4096*16-1>8*4096*4096*16", 0, 0);
    }

    // "& | ! give 1 or 0 (what is not 0 is true": what is below 0 too
    static void promise30_whatIsNot0IsTrue() {
        gives(1, "7|0", 0, 0);
        gives(1, "0|7", 0, 0);
        gives(0, "0|0", 0, 0);
        gives(1, "7&2", 0, 0);
        gives(0, "7&0", 0, 0);
        gives(0, "0&7", 0, 0);
        gives(1, "(0-7)&(0-1)", 0, 0);
        gives(1, "(0-7)|0", 0, 0);
        gives(0, "!7", 0, 0);
        gives(0, "!(0-7)", 0, 0);
        gives(1, "!0", 0, 0);
        gives(1, "!!(0-7)", 0, 0);
        gives(0, "!!!!!!!!0", 0, 0);
        gives(1, "8*4096*4096*16|0", 0, 0);
    }

    // "the loosest first": each binds tighter than the one ahead of it
    static void promise30_whatBindsTighter() {
        gives(1, "1|1&0", 0, 0);
        gives(1, "0&1|1", 0, 0);
        gives(1, "1&2=2", 0, 0);
        gives(1, "2=2&1", 0, 0);
        gives(1, "3=1+2", 0, 0);
        gives(7, "1+2*3", 0, 0);
        gives(5, "8-9/3", 0, 0);
        gives(0, "!1*0", 0, 0);
        gives(4, "!0+3", 0, 0);
        gives(2, "!(1=2)+1", 0, 0);
    }

    // "{ .. }": rows of one kind go from the left
    static void promise30_rowsGoFromTheLeft() {
        gives(4, "9-3-2", 0, 0);
        gives(8, "9-3+2", 0, 0);
        gives(2, "16/4/2", 0, 0);
        gives(8, "16/4*2", 0, 0);
        gives(6, "7/2*2", 0, 0);
    }

    // ---- textTold

    static void promise31_noSuchTextIsBad() {
        refused(BAD, x -> x.textTold(-1, 0), x -> x.textTold(13, 0), x -> x.textTold(14, 0), x -> x.textTold(MIN, 1), x -> x.textTold(MAX, 1));
        due(BAD, new ParcelRing().textTold(0, 0), new ParcelRing().textTold(-1, 1));
    }

    // "what 0 KEY, 1 how many"
    static void promise31_whatBelow0OrAbove1IsBad() {
        refused(BAD, x -> x.textTold(0, -1), x -> x.textTold(0, 2), x -> x.textTold(12, MIN), x -> x.textTold(12, MAX));
    }

    // The first and the last of 14.
    static void promise31_theFirstAndTheLast() {
        ParcelRing x = full();
        due(13, x.text());
        row(of(0, 2, 0, 2), x.textTold(0, 0), x.textTold(13, 0), x.textTold(12, 0), x.textTold(11, 0));
        row(of(2, 3), x.textTold(0, 1), x.textTold(13, 1));
        due(BAD, x.textTold(14, 0));
    }

    // "how many NUMBERS and NAMES it has": 1 at least, each as often as it stands there
    static void promise31_theFewestAndTheMost() {
        ParcelRing x = new ParcelRing();
        text(x, "fine 1234");
        text(x, "fine !!(!((a)))");
        text(x, "stop s+s+s+s");
        text(x, "fine " + "1+".repeat(45) + "1");
        row(of(1, 1, 4, 46), x.textTold(0, 1), x.textTold(1, 1), x.textTold(2, 1), x.textTold(3, 1));
        row(of(2, 2, 1, 2), x.textTold(0, 0), x.textTold(1, 0), x.textTold(2, 0), x.textTold(3, 0));
    }

    // A TEXT that is gone with the image is none.
    static void promise31_aTextThatIsGone() {
        ParcelRing x = new ParcelRing();
        text(x, "hold 1");
        x.keep();
        text(x, "stop 1+2");
        due(2, x.textTold(1, 1));
        x.back();
        due(BAD, x.textTold(1, 1), x.textTold(1, 0));
        due(1, text(x, "fine 1+2+3"));
        row(of(2, 3), x.textTold(1, 0), x.textTold(1, 1));
    }

    static void promise31_nothingChanges() {
        thought(x -> x.textTold(0, 0), x -> x.textTold(12, 1));
    }

    // ---- why

    // "KEY (0 hold, 1 stop, 2 fine)"
    static void promise32_keyBelow0OrAbove2IsBad() {
        refused(BAD, x -> x.why(-1), x -> x.why(3), x -> x.why(MIN), x -> x.why(MAX));
    }

    // "BAD; NONE"
    static void promise32_noneWithoutAText() {
        ParcelRing x = new ParcelRing();
        due(NONE, x.why(0), x.why(1), x.why(2));
        due(BAD, x.why(-1), x.why(3));
        text(x, "stop 1");
        row(of(NONE, 0, NONE), x.why(0), x.why(1), x.why(2));
    }

    // "Of a KEY that TEXT counts that was told last": up to the fourteenth, and not one that was refused
    static void promise32_theOneThatWasToldLast() {
        ParcelRing x = full();
        row(of(12, 10, 11), x.why(0), x.why(1), x.why(2));
        due(13, x.text());
        due(13, x.why(2));
        text(x, "hold 1");
        text(x, "stop +");
        row(of(12, 10, 13), x.why(0), x.why(1), x.why(2));
    }

    // With the image those count again that counted then.
    static void promise32_backWithTheImage() {
        ParcelRing x = new ParcelRing();
        x.keep();
        text(x, "hold 1");
        due(0, x.why(0));
        x.back();
        due(NONE, x.why(0));
    }

    static void promise32_nothingChanges() {
        thought(x -> x.why(0), x -> x.why(2));
    }
}
