/** A test for each sentence of the document's head and of its "Terms" that names a boundary case. */
public final class TermsBoundsTest {
    private static final int TRUE = Desk.TRUE;
    private static final int FALSE = Desk.FALSE;
    private static final String ALL = "p1 d1 n1 wa k1";

    public static void main(String[] args) {
        Sentences.runAll(TermsBoundsTest.class);
    }

    private static void taken(String... texts) {
        for (String text : texts) {
            Desk.of(text).due(0, "count", 3);
        }
    }

    private static void faulty(int at, String... texts) {
        for (String text : texts) {
            new Desk().feed(text).due(at, "fault").due(-1, "report").due(text.length(), "count", 3);
        }
    }

    private static void numbersDue(String mark, int field, int highest) {
        Desk.of(mark + 0).due(0, "field", 0, field, 0);
        Desk.of(mark + highest).due(highest, "field", 0, field, 0);
        faulty(0, mark + (highest + 1), mark + -1);
    }

    private static void pairDue(int want, String one, String other) {
        Desk.of(one, other).due(want, "pair", 0, 1, 0).due(want, "pair", 1, 0, 0);
    }

    private static Desk onDay(int day, String... texts) {
        Desk x = new Desk();
        return x.due(day, "days", day).reports(texts);
    }

    // ---- The head

    @Sentence("An object is used for at most 512 calls after it has been made")
    static void the512thCallIsAnswered() {
        Desk x = Desk.of("p1", "p1", "p1", "p1", "p1", "p1", "p1", "p1", "p1").due(1, "days", 1).reports("d1");
        // Another q each time, so that nothing which was worked out before can be told again.
        while (x.calls() < Desk.MOST_CALLS) {
            int q = x.calls() % 4 / 2;
            x.due(x.calls() % 2 == 0 ? 10 : 3 + 3 * q, x.calls() % 2 == 0 ? "cost" : "forms", q);
        }
    }

    @Sentence("`NONE = -1`: None; refused.")
    static void noneIsMinusOne() {
        Sentences.check("NONE", TidingsDesk.NONE, -1);
    }

    // ---- DAYS and FIELDS

    @Sentence("DAYS: NOW is 0 at first, 1,000 at most.")
    static void nowIs0To1000() {
        new Desk().due(0, "count", 0).due(1000, "days", 1000).due(1000, "count", 0);
        new Desk().due(-1, "days", 1001).due(0, "count", 0);
        new Desk().due(999, "days", 999).due(1000, "days", 1).due(-1, "days", 1).due(1000, "count", 0);
    }

    @Sentence("FIELDS: 0 p a place (0 .. 99)")
    static void aPlaceIs0To99() {
        numbersDue("p", 0, 99);
    }

    @Sentence("1 d a date (0 .. 999)")
    static void aDateIs0To999() {
        numbersDue("d", 1, 999);
    }

    @Sentence("2 n a number or a span (0 .. 9,999)")
    static void aNumberIs0To9999() {
        numbersDue("n", 2, 9999);
        Desk.of("n0-9999").due(0, "field", 0, 2, 0).due(9999, "upper", 0, 0);
        Desk.of("n0-0").due(0, "field", 0, 2, 0).due(0, "upper", 0, 0);
        Desk.of("n9999-9999").due(9999, "field", 0, 2, 0).due(9999, "upper", 0, 0);
        faulty(0, "n0-10000", "n9999-10000", "n10000-10000");
    }

    @Sentence("3 w names (one to three, unlike, of 1 to 6 letters a .. z)")
    static void namesAreOneToThree() {
        Desk.of("wa").due(1, "field", 0, 3, 0);
        Desk.of("wa,b").due(2, "field", 0, 3, 0);
        Desk.of("wa,b,c").due(3, "field", 0, 3, 0);
        faulty(0, "w", "w d1", "wa,b,c,d", "wa,b,c,d,e");
    }

    @Sentence("3 w names (one to three, unlike, of 1 to 6 letters a .. z)")
    static void namesAreUnlike() {
        faulty(0, "wa,a", "wa,b,a", "wb,a,a", "wa,a,b", "wabcdef,abcdef", "wz,abcdef,abcdef");
        taken("wa,aa", "wa,aa,aaa", "wab,ba", "wabcdef,abcdeg", "wabcdef,bbcdef", "wabcde,abcdef", "wbcdef,abcdef");
    }

    @Sentence("3 w names (one to three, unlike, of 1 to 6 letters a .. z)")
    static void aNameHasOneToSixLetters() {
        Desk.of("wa").due('a', "letter", 0, 0, 0, 0).due(-1, "letter", 0, 0, 1, 0);
        Desk x = Desk.of("wabcdef,bcdefg,cdefgh");
        for (int i = 0; i < 3; i++) {
            for (int j = 0; j < 6; j++) {
                x.due('a' + i + j, "letter", 0, i, j, 0);
            }
            x.due(-1, "letter", 0, i, 6, 0);
        }
        faulty(0, "w", "wabcdefg", "wa,abcdefg", "wa,b,abcdefg", "wabcdefg,a", "w,a", "wa,,b");
    }

    @Sentence("3 w names (one to three, unlike, of 1 to 6 letters a .. z)")
    static void lettersAreAToZ() {
        Desk.of("waz").due('a', "letter", 0, 0, 0, 0).due('z', "letter", 0, 0, 1, 0);
        Desk.of("wzzzzzz").due('z', "letter", 0, 0, 5, 0);
        faulty(0, "w`", "w{", "wA", "wZ", "w\u00e1", "wa,`", "wa,{");
        faulty(2, "wa`", "wz{", "waA", "wzZ", "wa\u00e1");
    }

    @Sentence("4 k a kind (0 .. 2)")
    static void aKindIs0To2() {
        numbersDue("k", 4, 2);
    }

    // ---- A TEXT

    @Sentence("ITEMS with blanks (32) between, one blank or more")
    static void blanksStandBetween() {
        taken("p1 d2", "p1  d2", "p1" + " ".repeat(96) + "d2", "p1 d2 n3 wa k1", "k1  wa   n3    d2 p1");
        faulty(2, "p1d2", "p1\u001fd2", "p1!d2", "p1\td2", "p1\nd2", "p1\u00a0d2", "p1,d2", "p1-d2");
        faulty(0, "\u001fp1", "!p1", "\tp1", "\u00a0p1");
        faulty(3, "p1 \u001fd2", "p1 !d2", "p1 \td2");
    }

    @Sentence("none twice")
    static void noItemComesTwice() {
        String[] items = {"p1", "d1", "n1", "wa", "k1"};
        String[] others = {"p2", "d2", "n2-3", "wb,c", "k2"};
        for (int f = 0; f < 5; f++) {
            faulty(3, items[f] + " " + items[f], items[f] + " " + others[f]);
            faulty(6, items[f] + " " + items[(f + 1) % 5] + " " + others[f]);
            faulty(15, ALL + " " + others[f]);
        }
        taken(ALL);
    }

    @Sentence("one at least")
    static void oneItemAtLeast() {
        faulty(0, "");
        faulty(1, " ");
        faulty(100, " ".repeat(100));
        Desk.of("p1").due(FALSE, "correct", 0).feed("  ").due(FALSE, "correct", 0).due(2, "count", 3);
        taken("p1", "d1", "n1", "wa", "k1");
    }

    @Sentence("p, d, n, k, each with its number behind it at once")
    static void aNumberStandsBehindAtOnce() {
        for (String mark : new String[] {"p", "d", "n", "k"}) {
            faulty(0, mark, mark + " ", mark + " 1", mark + "x", mark + mark + "1", mark + "+1", mark + ",1");
            taken(mark + "1");
        }
        faulty(0, "1", "P1", "q1", "o1", "e1", "c1", "m1", "l1", "j1", "x", "v1");
    }

    @Sentence("(all digits that come there, four at most, within its bounds)")
    static void digitsAreFourAtMost() {
        String[] four = {"p0099", "d0999", "n9999", "k0002", "n0001", "n0000", "n0001-0002", "p0000", "d0000", "k0000"};
        taken(four);
        for (String text : four) {
            faulty(0, text.charAt(0) + "0" + text.substring(1));
        }
        faulty(0, "n1-00002", "n00001-2", "p00000", "k00001", "n12345");
        Desk.of("p0007 d0070 n0700-7000 k0001").due(7, "field", 0, 0, 0).due(70, "field", 0, 1, 0)
            .due(700, "field", 0, 2, 0).due(7000, "upper", 0, 0).due(1, "field", 0, 4, 0);
    }

    @Sentence("(all digits that come there, four at most, within its bounds)")
    static void digitsAre0To9() {
        Desk.of("n1234").due(1234, "field", 0, 2, 0);
        Desk.of("n5678-9099").due(5678, "field", 0, 2, 0).due(9099, "upper", 0, 0);
        faulty(0, "p/", "p:", "n/", "n:", "n5-/", "n5-:");
        faulty(2, "p0/", "p9:", "n0/", "n9:", "d1a", "k1A");
        faulty(4, "n0-0/", "n9-9:");
    }

    @Sentence("(all digits that come there, four at most, within its bounds)")
    static void manyDigitsDoNotWrapAround() {
        String[] marks = {"p", "d", "n", "k", "n0-"};
        for (String mark : marks) {
            faulty(0, mark + "4294967297", mark + "18446744073709551617", mark + "1" + "0".repeat(64));
            faulty(0, mark + "0".repeat(100 - mark.length()), mark + "9".repeat(100 - mark.length()));
        }
        faulty(0, "p100", "p9999", "d1000", "d9999", "k3", "k9999", "k10");
    }

    @Sentence("n perhaps with - and a second number that is no less")
    static void aSpansEndIsNoLess() {
        Desk.of("n5-5").due(5, "field", 0, 2, 0).due(5, "upper", 0, 0);
        Desk.of("n5-6").due(5, "field", 0, 2, 0).due(6, "upper", 0, 0);
        taken("n0-0", "n9998-9999", "n9999-9999", "n9-10", "n009-10");
        faulty(0, "n5-4", "n1-0", "n9999-9998", "n9999-0", "n10-9", "n10-009");
        faulty(2, "p5-6", "d5-6", "k1-2");
        faulty(4, "n5-6-7", "n5-6-", "n5-6,7");
    }

    @Sentence("(behind a - there must be one)")
    static void aDashAsksForANumber() {
        faulty(0, "n5-", "n5- ", "n5- 6", "n5-x", "n5--6", "n-6", "n-", "n5-d1", "n0-");
        faulty(3, "p1 n5-", "p1 n5- d6");
        faulty(2, "n5,6", "n5.6", "n5+6");
        faulty(3, "n5 -6");
    }

    @Sentence("w and names at once, with , between")
    static void namesStandBehindAtOnce() {
        faulty(0, "w a", "w,a", "w", "w ", "w1", "w-a");
        faulty(2, "wa;b", "wa+b", "wa-b", "wa.b", "wa1");
        faulty(3, "wa b");
        Desk.of("wa,b").due('b', "letter", 0, 1, 0, 0);
        Desk.of("wab").due('b', "letter", 0, 0, 1, 0);
    }

    @Sentence("(a name: all letters a .. z that come; behind a , there must be one)")
    static void aCommaAsksForAName() {
        faulty(0, "wa,", "wa, ", "wa, b", "wa,,b", "wa,B", "wa,1", "wa,b,", "wa,b, c", "wa,b,c,", "wa,b,c, d");
        faulty(3, "p1 wa,", "p1 wa,b,c,");
        // The letters of marks are letters too.
        Desk.of("wpdnwk").due(8, "shape", 0, 0).due('k', "letter", 0, 0, 4, 0);
        faulty(0, "wanndann");
    }

    @Sentence("Blanks ahead and behind may be.")
    static void blanksAheadAndBehind() {
        String blanks = " ".repeat(98);
        taken(" p1", "p1 ", " p1 ", blanks + "p1", "p1" + blanks, blanks.substring(49) + "p1" + blanks.substring(49));
        Desk.of(blanks + "p7").due(7, "field", 0, 0, 0);
        Desk.of("p7" + blanks).due(7, "field", 0, 0, 0);
    }

    @Sentence("FAULT: the first byte of the first ITEM that is wrong")
    static void theFaultIsAtTheFirstByteOfAnItem() {
        faulty(0, "x", "p100 d1000", "k3 p1x", "p");
        faulty(3, "   p100", "p1 d1000 k3", "p1 n5-4 d2x");
        faulty(99, " ".repeat(99) + "x", " ".repeat(99) + "p", "p1" + " ".repeat(97) + "d");
        faulty(0, "w" + "z".repeat(99));
        faulty(15, ALL + " p", ALL + " z1");
    }

    @Sentence("(the next byte, if an ITEM is right but what stands behind it at once is no blank)")
    static void theFaultIsTheNextByte() {
        faulty(2, "p1x", "d1x", "n1x", "wa1", "k1x", "p1\u0001", "p1\u00ff", "p1x d1000", "p1\u001f", "p1!");
        faulty(4, "n1-2x", "wa,b1", "wa,b-");
        faulty(99, " ".repeat(97) + "p1x", " ".repeat(97) + "wa1");
        faulty(5, "p1 d2x k3");
        taken(" ".repeat(98) + "p1", " ".repeat(97) + "p1 ");
    }

    @Sentence("the length, if there is none.")
    static void theFaultIsTheLength() {
        for (int length : new int[] {0, 1, 2, 99, 100}) {
            faulty(length, " ".repeat(length));
        }
    }

    // ---- REPORTS, CORRECTIONS and DENIALS

    @Sentence("REPORTS (10 at most)")
    static void reportsAreTenAtMost() {
        Desk x = new Desk();
        for (int r = 0; r < 10; r++) {
            x.due(r, "count", 1).feed("p" + (90 + r)).due(r, "report");
        }
        x.due(10, "count", 1).feed("p5").due(-1, "report").due(10, "count", 1);
        for (int r = 0; r < 10; r++) {
            x.due(90 + r, "field", r, 0, 0);
        }
        x.due(-1, "field", 10, 0, 0).due(0, "shape", 10, 0);
    }

    @Sentence("CORRECTIONS of REPORTS are TEXTS, told NOW")
    static void textsAreToldNow() {
        Desk x = onDay(5, "p1");
        x.due(0, "shape", 0, 4).due(1, "shape", 0, 5).due(7, "days", 2).corrects(0, "p2 d3");
        x.due(1, "field", 0, 0, 6).due(-1, "field", 0, 1, 6).due(2, "field", 0, 0, 7).due(3, "field", 0, 1, 7);
        Desk y = Desk.of("p1");
        y.due(1000, "days", 1000).corrects(0, "p2").reports("p3");
        y.due(1, "field", 0, 0, 999).due(2, "field", 0, 0, 1000).due(0, "shape", 1, 999).due(1, "shape", 1, 1000);
    }

    @Sentence("a DENIAL of a FIELD of a REPORT is told NOW")
    static void aDenialIsToldNow() {
        Desk x = Desk.of("p1");
        x.due(3, "days", 3).due(TRUE, "deny", 0, 0).due(1, "field", 0, 0, 2).due(-1, "field", 0, 0, 3);
        x.due(1000, "days", 997).corrects(0, "p4").due(-1, "field", 0, 0, 999).due(4, "field", 0, 0, 1000);
    }

    @Sentence("(60 CORRECTIONS and DENIALS together)")
    static void correctionsAndDenialsAreSixtyTogether() {
        for (int corrections : new int[] {0, 1, 30, 59, 60}) {
            Desk x = Desk.of(ALL, ALL);
            for (int i = 0; i < corrections; i++) {
                x.corrects(i % 2, "p" + i);
            }
            for (int i = corrections; i < 60; i++) {
                x.due(TRUE, "deny", i % 2, 1);
            }
            x.due(60, "count", 2).due(FALSE, "deny", 0, 2).feed("n9").due(FALSE, "correct", 0).due(60, "count", 2);
            x.due(1, "field", 0, 2, 0).due(1, "field", 1, 2, 0).due(2, "count", 3);
            x.due(corrections < 2 ? 1 : corrections / 2 * 2 - 1, "field", 1, 0, 0);
        }
    }

    @Sentence("As known in q (0 .. NOW)")
    static void qIs0ToNow() {
        for (int now : new int[] {0, 1, 1000}) {
            Desk x = Desk.of("p1 d1 n1 wa k1", "p1");
            x.due(now, "days", now);
            for (int q : new int[] {0, now}) {
                x.due(1, "field", 0, 0, q).due(1, "upper", 0, q).due('a', "letter", 0, 0, 0, q);
                x.due(0, "pair", 0, 1, q).due(0, "group", 1, q).due(10, "cost", q).due(1, "groups", q);
                x.due(2, "happening", 0, 5, q).due(1, "at", 1, q).due(31, "shape", 0, q);
                x.due(1, "form", 0, q).due(6, "forms", q);
            }
            x.outside(-1, 2, 0, now, "field", 0, 0, 0).outside(-1, 1, 0, now, "upper", 0, 0);
            x.outside(-1, 3, 0, now, "letter", 0, 0, 0, 0).outside(-1000, 2, 0, now, "pair", 0, 1, 0);
            x.outside(-1, 1, 0, now, "group", 0, 0).outside(-10000, 0, 0, now, "cost", 0);
            x.outside(-1, 0, 0, now, "groups", 0).outside(-1, 2, 0, now, "happening", 0, 5, 0);
            x.outside(-1, 1, 0, now, "at", 1, 0).outside(0, 1, 0, now, "shape", 0, 0);
            x.outside(-1, 1, 0, now, "form", 0, 0).outside(-1, 0, 0, now, "forms", 0);
        }
    }

    @Sentence("REPORTS told on DAYS up to q")
    static void reportsUpToQ() {
        Desk x = Desk.of("p1");
        x.due(1, "days", 1).reports("p1").due(2, "days", 1).reports("p1", "p1").due(3, "days", 1);
        int[] known = {1, 2, 4, 4};
        for (int q = 0; q < 4; q++) {
            for (int r = 0; r < 5; r++) {
                x.due(r < known[q] ? 1 : 0, "shape", r, q).due(r < known[q] ? 0 : -1, "group", r, q);
                x.due(r < known[q] ? known[q] : -1, "happening", r, 5, q);
            }
        }
    }

    @Sentence("a FIELD of one is as its latest TEXT, CORRECTION or DENIAL that was told on DAYS up to q and has it "
        + "says")
    static void theLatestThatHasAFieldSaysIt() {
        Desk x = Desk.of("p1 d1");
        x.corrects(0, "p2").corrects(0, "p3 n1-9").due(3, "field", 0, 0, 0).due(1, "field", 0, 1, 0);
        x.due(TRUE, "deny", 0, 0).due(-1, "field", 0, 0, 0).corrects(0, "d4").due(-1, "field", 0, 0, 0);
        x.corrects(0, "p5").due(5, "field", 0, 0, 0).due(1, "field", 0, 2, 0).due(9, "upper", 0, 0);
        x.due(1, "days", 1).due(TRUE, "deny", 0, 1).corrects(0, "n7").due(TRUE, "deny", 0, 2);
        x.due(4, "field", 0, 1, 0).due(-1, "field", 0, 1, 1).due(9, "upper", 0, 0).due(-1, "upper", 0, 1);
    }

    @Sentence("has it says: that, or none.")
    static void aCorrectionOfNamesLeavesNoneOfTheOld() {
        Desk x = Desk.of("wabc,de,f");
        x.due(1, "days", 1).corrects(0, "wz").due(1, "field", 0, 3, 1).due(-1, "letter", 0, 0, 1, 1);
        x.due(-1, "letter", 0, 1, 0, 1).due(3, "field", 0, 3, 0).due('f', "letter", 0, 2, 0, 0);
        x.due(2, "days", 1).due(TRUE, "deny", 0, 3).due(-1, "field", 0, 3, 2).due(-1, "letter", 0, 0, 0, 2);
        // What it never had may be denied, and told behind that.
        x.due(TRUE, "deny", 0, 4).due(-1, "field", 0, 4, 2).corrects(0, "k0").due(0, "field", 0, 4, 2);
    }

    // ---- PAIRS

    @Sentence("they MUST NOT be one if both have kinds that differ")
    static void kindsThatDiffer() {
        String[] kinds = {"k0", "k1", "k2"};
        for (int a = 0; a < 3; a++) {
            for (int b = 0; b < 3; b++) {
                pairDue(a == b ? 0 : 1000, kinds[a], kinds[b]);
            }
            pairDue(0, kinds[a], "p1");
        }
    }

    @Sentence("or dates more than 9 apart")
    static void datesMoreThan9Apart() {
        pairDue(9, "d0", "d9");
        pairDue(1000, "d0", "d10");
        pairDue(9, "d990", "d999");
        pairDue(1000, "d989", "d999");
        pairDue(1000, "d0", "d999");
        pairDue(0, "d0", "p1");
    }

    @Sentence("or a hand told them APART.")
    static void aHandToldThemApart() {
        Desk x = Desk.of("wa", "wa");
        x.due(-6, "pair", 0, 1, 0).due(TRUE, "hand", 1, 0, 2).due(1000, "pair", 0, 1, 0).due(1000, "pair", 1, 0, 0);
        x.due(TRUE, "hand", 0, 1, 1).due(-6, "pair", 0, 1, 0).due(TRUE, "hand", 0, 1, 0).due(-6, "pair", 1, 0, 0);
    }

    @Sentence("Their COST: how far dates are apart (both known)")
    static void datesCostHowFarTheyAreApart() {
        for (int apart = 0; apart <= 9; apart++) {
            pairDue(apart, "d500", "d" + (500 + apart));
        }
        pairDue(0, "d0", "n0");
        pairDue(0, "d999", "n0");
    }

    @Sentence("6 if places differ (both known)")
    static void placesThatDiffer() {
        pairDue(6, "p0", "p99");
        pairDue(6, "p0", "p1");
        pairDue(0, "p0", "p0");
        pairDue(0, "p99", "p99");
        pairDue(0, "p0", "d1");
    }

    @Sentence("4 if numbers have nothing in common (both known)")
    static void numbersWithNothingInCommon() {
        pairDue(0, "n5", "n5");
        pairDue(4, "n5", "n6");
        pairDue(0, "n1-5", "n5-9");
        pairDue(4, "n1-4", "n5-9");
        pairDue(0, "n0-9999", "n7");
        pairDue(0, "n0-9999", "n0-9999");
        pairDue(4, "n0", "n9999");
        pairDue(0, "n0", "n0-9999");
        pairDue(0, "n9999", "n0-9999");
        pairDue(0, "n0", "p1");
    }

    @Sentence("less, for each name that both have, 12 by how many REPORTS have it, cut (0, if more than 4 have it)")
    static void namesCostLess() {
        int[] less = {0, 0, 6, 4, 3, 0, 0, 0, 0, 0, 0};
        Desk x = Desk.of("wa,z", "wy,a");
        for (int have = 2; have <= 10; have++) {
            x.due(-less[have], "pair", 0, 1, 0);
            if (have < 10) {
                x.reports("wa");
            }
        }
        x.due(0, "pair", 8, 9, 0);
        pairDue(-6, "wa", "wa");
        pairDue(-12, "wa,b", "wb,a");
        pairDue(-18, "wa,b,c", "wc,a,b");
        pairDue(0, "wabcdef", "wabcdeg");
        pairDue(0, "wa", "p1");
        Desk.of("wa,b,c", "wa,b,c", "wb,c", "wc", "wc").due(-6 - 4, "pair", 0, 1, 0).due(-4, "pair", 1, 2, 0);
    }

    @Sentence("12 by how many REPORTS have it")
    static void onlyReportsAsKnownHaveAName() {
        Desk x = Desk.of("wa", "wa", "wa", "wa");
        x.due(1, "days", 1).reports("wa").due(-3, "pair", 0, 1, 0).due(0, "pair", 0, 1, 1);
        x.due(2, "days", 1).corrects(4, "wb").due(-3, "pair", 0, 1, 2).due(TRUE, "deny", 3, 3);
        x.due(-4, "pair", 0, 1, 2).due(0, "pair", 0, 3, 2).due(0, "pair", 0, 1, 1);
    }

    @Sentence("Their COST: how far dates are apart (both known), 6 if places differ (both known)")
    static void aReportOfWhichAllIsDeniedCostsNothing() {
        Desk x = Desk.of(ALL, "p2 d900 n2 wa k2").due(1000, "pair", 0, 1, 0).due(1, "days", 1);
        for (int f = 0; f < 5; f++) {
            x.due(TRUE, "deny", 1, f);
        }
        x.due(0, "pair", 0, 1, 1).due(0, "shape", 1, 1).grouped(1, 10, 0, 0).grouped(0, 20, 0, 1);
        x.happens(1, 1, 1, 1, 1, 1, 1, 2, 0).found(1, 3 + 3 + 1, 1, 31).due(TRUE, "price", 50).found(1, 50 + 5, 31);
    }

    @Sentence("Their COST")
    static void thePairsGreatestAndLeastCost() {
        pairDue(9 + 6 + 4, "p0 d0 n0 wa,b,c k0", "p99 d9 n9999 wd,e,f k0");
        pairDue(-18, "p0 d0 n0 wa,b,c k0", "p0 d0 n0-9 wc,b,a k0");
        pairDue(9 + 6 + 4 - 18, "p0 d0 n0 wa,b,c k2", "p99 d9 n9999 wc,b,a k2");
    }

    // ---- A GROUPING

    @Sentence("A GROUPING puts each REPORT known into one GROUP")
    static void eachReportIsInOneGroup() {
        new Desk().due(0, "groups", 0).due(0, "cost", 0).due(-1, "group", 0, 0).due(0, "at", 0, 0);
        Desk.of("p1").grouped(0, 10, 0).due(1, "happening", 0, 5, 0);
        String[] ten = {"p1", "p1", "p1", "p1", "p1", "p1", "p1", "p1", "p1", "p1"};
        Desk x = Desk.of(ten).grouped(0, 10, 0, 0, 0, 0, 0, 0, 0, 0, 0, 0).due(10, "happening", 9, 5, 0);
        x.hands(10, 2).grouped(0, 100, 0, 1, 2, 3, 4, 5, 6, 7, 8, 9).due(1, "happening", 9, 5, 0).due(10, "at", 1, 0);
    }

    @Sentence("no two in one MUST NOT be one")
    static void noTwoInOneThatMustNotBe() {
        Desk x = Desk.of("d0", "d5", "d9");
        x.due(TRUE, "opens", 100).grouped(0, 100 + 5 + 9 + 4, 0, 0, 0);
        Desk y = Desk.of("d0", "d5", "d10");
        y.due(TRUE, "opens", 100).grouped(0, 200 + 5, 0, 0, 2);
        Desk.of("k0", "k1", "k2", "k0").grouped(0, 30, 0, 1, 2, 0);
        Desk z = Desk.of("wa,b,c", "wa,b,c").due(TRUE, "opens", 100).due(TRUE, "hand", 0, 1, 2);
        z.grouped(0, 200, 0, 1);
    }

    @Sentence("two that a hand told TOGETHER (both known) are in one.")
    static void twoToldTogetherAreInOne() {
        Desk x = Desk.of("p1", "p2").due(TRUE, "opens", 0).grouped(0, 0, 0, 1);
        x.due(TRUE, "hand", 1, 0, 1).grouped(0, 6, 0, 0).due(TRUE, "hand", 0, 1, 0).grouped(0, 0, 0, 1);
        // Told of one that is not known yet, it binds no other.
        Desk y = Desk.of("p1", "p2").due(1, "days", 1).reports("n1").due(TRUE, "opens", 5);
        y.due(TRUE, "hand", 0, 2, 1).due(TRUE, "hand", 2, 1, 1).grouped(0, 10, 0, 1).grouped(1, 5 + 6, 0, 0, 0);
        Desk z = Desk.of("p0 n0", "p1 n1", "p2 n2", "p3 n3", "p4 n4", "p5 n5", "p6 n6", "p7 n7", "p8 n8", "p9 n9");
        for (int r = 0; r < 9; r++) {
            z.due(TRUE, "hand", 9 - r, 8 - r, 1);
        }
        z.due(TRUE, "opens", 0).grouped(0, 45 * 10, 0, 0, 0, 0, 0, 0, 0, 0, 0, 0);
    }

    @Sentence("Its COST is OPEN (0 .. 100; 10 at first) for each GROUP")
    static void openIs0To100() {
        Desk x = Desk.of("k0", "k1").due(20, "cost", 0).due(TRUE, "opens", 0).due(0, "cost", 0);
        x.due(TRUE, "opens", 100).due(200, "cost", 0).due(FALSE, "opens", 101).due(FALSE, "opens", -1);
        x.due(200, "cost", 0).due(TRUE, "opens", 1).due(2, "cost", 0).due(TRUE, "opens", 99).due(198, "cost", 0);
        Desk ten = Desk.of("p1", "p1", "p1", "p1", "p1", "p1", "p1", "p1", "p1", "p1").hands(10, 2);
        ten.due(TRUE, "opens", 100).due(1000, "cost", 0).due(TRUE, "opens", 0).due(0, "cost", 0);
    }

    @Sentence("and that of all PAIRS within.")
    static void allPairsWithinCost() {
        Desk dear = new Desk();
        for (int r = 0; r < 10; r++) {
            dear.reports("p" + r + " d" + (r < 5 ? 0 : 9) + " n" + r);
        }
        dear.hands(10, 1).due(TRUE, "opens", 100);
        dear.grouped(0, 100 + 45 * 10 + 25 * 9, 0, 0, 0, 0, 0, 0, 0, 0, 0, 0);
        String[] names = {"wa,b,c k0", "wd,e,f k1", "wg,h,i k2"};
        Desk cheap = new Desk();
        for (int r = 0; r < 10; r++) {
            cheap.reports(names[r / 4]);
        }
        cheap.due(TRUE, "opens", 0).grouped(0, -6 * 9 - 6 * 9 - 18, 0, 0, 0, 0, 4, 4, 4, 4, 8, 8);
        // Two REPORTS more have the names of all: a name of five gains nothing.
        Desk.of("wa", "wa", "wa", "wa", "wa").grouped(0, 10, 0, 0, 0, 0, 0);
        Desk.of("wa", "wa", "wa", "wa").grouped(0, 10 - 6 * 3, 0, 0, 0, 0);
    }

    @Sentence("a GROUP that is there ahead of a new one")
    static void aGroupThatIsThereAheadOfANewOne() {
        Desk x = Desk.of("p1", "p2");
        x.due(TRUE, "opens", 5).grouped(0, 10, 0, 1).due(TRUE, "opens", 6).grouped(0, 12, 0, 0);
        x.due(TRUE, "opens", 7).grouped(0, 13, 0, 0);
        Desk.of("p1", "d1").due(TRUE, "opens", 0).grouped(0, 0, 0, 0);
    }

    @Sentence("has the REPORT in the GROUP that began earlier")
    static void theGroupThatBeganEarlier() {
        Desk.of("k0", "k1", "p5").grouped(0, 20, 0, 1, 0);
        Desk.of("k2", "k1", "k0", "p5", "p5").grouped(0, 30, 0, 1, 2, 0, 0);
        Desk.of("k0", "k1", "p5").due(TRUE, "hand", 2, 0, 2).grouped(0, 20, 0, 1, 1);
        // A lower COST comes ahead of a GROUP that began earlier.
        Desk.of("k0", "k1 wa", "p5 wa").grouped(0, 20 - 6, 0, 1, 1);
    }

    @Sentence("of several the one which, where they first differ (REPORTS by number)")
    static void whereTheyFirstDiffer() {
        // 2 with 0 and 3 with 1 costs as much as 2 with 1 and 3 with 0.
        Desk x = Desk.of("wa,b", "wc,d", "wc,a", "wb,d").due(TRUE, "opens", 0);
        x.due(TRUE, "hand", 0, 1, 2).due(TRUE, "hand", 2, 3, 2).grouped(0, -12, 0, 1, 0, 1);
        // 0 with 3 and 2 with 4 costs as much as 0 with 4 and 1 with 2: REPORT 2 is where they first differ.
        Desk y = Desk.of("d10", "d17", "d11", "d15", "d6");
        int[][] apart = {{0, 1}, {0, 2}, {1, 3}, {1, 4}, {2, 3}, {3, 4}};
        for (int[] two : apart) {
            y.due(TRUE, "hand", two[0], two[1], 2);
        }
        y.grouped(0, 40, 0, 1, 1, 3, 0);
        // The last REPORT of ten alone may be where they differ.
        Desk z = Desk.of("k0", "k1", "k2", "k0", "k1", "k2", "k0", "k1", "k2", "d1");
        z.grouped(0, 30, 0, 1, 2, 0, 1, 2, 0, 1, 2, 0).due(TRUE, "hand", 6, 9, 2);
        z.grouped(0, 30, 0, 1, 2, 0, 1, 2, 0, 1, 2, 1);
    }

    @Sentence("There may be none.")
    static void thereMayBeNoGrouping() {
        Desk x = Desk.of("p1 k1", "p1 k2", "p1").due(TRUE, "hand", 0, 1, 1);
        x.due(-1, "group", 0, 0).due(-1, "group", 2, 0).due(-10000, "cost", 0).due(-1, "groups", 0).due(-1, "at", 1, 0);
        x.happens(2, 0, -1, -1, -1, -1, -1, -1, -1).due(1000, "pair", 0, 1, 0).due(1, "field", 0, 0, 0);
        x.found(0, 3 + 1, 17).due(TRUE, "hand", 0, 1, 0).grouped(0, 20, 0, 1, 0);
        x.due(TRUE, "hand", 0, 2, 1).grouped(0, 20, 0, 1, 0).due(TRUE, "hand", 1, 2, 1).due(-10000, "cost", 0);
        // Dates 9 apart may be TOGETHER, 10 may not; nor may what a chain joins against a hand.
        Desk.of("d0", "d9").due(TRUE, "hand", 0, 1, 1).grouped(0, 19, 0, 0);
        Desk.of("d0", "d10").due(TRUE, "hand", 0, 1, 1).due(-10000, "cost", 0).due(-1, "groups", 0);
        Desk y = Desk.of("p1", "p1", "p1").due(TRUE, "hand", 0, 1, 1).due(TRUE, "hand", 1, 2, 1);
        y.grouped(0, 10, 0, 0, 0).due(TRUE, "hand", 0, 2, 2).due(-10000, "cost", 0).due(-1, "group", 1, 0);
    }

    // ---- A GROUP

    @Sentence("A GROUP's place, date, kind: what all of its REPORTS that have one have alike; none (NONE); "
        + "or doubtful (-2).")
    static void whatTheReportsOfAGroupHaveAlike() {
        Desk.of("p0 d0 k0").happens(0, 0, 0, 0, -1, -1, 0, 1, 0);
        Desk.of("p99 d999 k2").happens(0, 0, 99, 999, -1, -1, 2, 1, 0);
        Desk.of("n1", "n1").happens(1, 0, -1, -1, 1, 1, -1, 2, 0);
        Desk.of("n1", "p0", "d0", "k0").happens(0, 0, 0, 0, 1, 1, 0, 4, 0);
        Desk.of("p5 d6 k1", "p5 d6 k1", "n1").happens(2, 0, 5, 6, 1, 1, 1, 3, 0);
        Desk x = Desk.of("p0 d0", "p0 d0", "p1 d1").hands(3, 1);
        x.happens(0, 0, -2, -2, -1, -1, -1, 3, 0).happens(2, 0, -2, -2, -1, -1, -1, 3, 0);
        Desk y = Desk.of("p1 d1", "p0 d0", "p1 d1", "k0").hands(4, 1).happens(3, 0, -2, -2, -1, -1, 0, 4, 0);
        y.due(1, "days", 1).due(TRUE, "deny", 1, 0).due(TRUE, "deny", 1, 1).happens(3, 1, 1, 1).happens(3, 0, -2, -2);
    }

    @Sentence("Its number: from the greatest of lower ends to the least of upper ends, of those that have one")
    static void theNumberOfAGroup() {
        Desk.of("n0").happens(0, 0, -1, -1, 0, 0, -1, 1, 0);
        Desk.of("n9999").happens(0, 0, -1, -1, 9999, 9999, -1, 1, 0);
        Desk.of("n0-9999").happens(0, 0, -1, -1, 0, 9999, -1, 1, 0);
        Desk.of("n0-9999", "n0-9998", "n1-9999", "p1").happens(3, 0, 1, -1, 1, 9998, -1, 4, 0);
        Desk.of("n3-7", "n4-6", "n2-8").happens(0, 0, -1, -1, 4, 6, -1, 3, 0);
        Desk.of("p1", "p1").happens(0, 0, 1, -1, -1, -1, -1, 2, 0);
    }

    @Sentence("a QUARREL, if that is behind this.")
    static void aQuarrel() {
        Desk.of("n1-5", "n5-9").happens(0, 0, -1, -1, 5, 5, -1, 2, 0);
        Desk.of("n1-4", "n5-9").happens(0, 0, -1, -1, -2, -2, -1, 2, 1);
        Desk.of("n0", "n1").happens(1, 0, -1, -1, -2, -2, -1, 2, 1);
        Desk.of("n9999", "n9998").happens(1, 0, -1, -1, -2, -2, -1, 2, 1);
        Desk.of("n0", "n0").happens(1, 0, -1, -1, 0, 0, -1, 2, 0);
        Desk.of("n1-5", "n4-9", "n5-6", "p1").happens(3, 0, 1, -1, 5, 5, -1, 4, 0);
        Desk.of("n1-5", "n4-9", "n6-7", "p1").happens(3, 0, 1, -1, -2, -2, -1, 4, 1);
    }

    // ---- SHAPES and FORMS

    @Sentence("SHAPE of a REPORT, as known: its FIELDS as bits (p 1, d 2, n 4, w 8, k 16).")
    static void shapesAre0To31() {
        String[] items = {"p1", "d1", "n1", "wa", "k1"};
        Desk x = Desk.of(ALL).due(31, "shape", 0, 0);
        for (int f = 0; f < 5; f++) {
            Desk.of(items[f]).due(1 << f, "shape", 0, 0);
            x.due(TRUE, "deny", 0, f).due(31 & -1 << f + 1, "shape", 0, 0);
        }
        x.due(0, "shape", 0, 0).corrects(0, "k0").due(16, "shape", 0, 0);
    }

    @Sentence("FORMS are SHAPES 1 .. 31, up to three of them (rising)")
    static void formsAreOneToThreeOf1To31() {
        Desk.of("p0").found(0, 3, 1);
        Desk.of(ALL).found(0, 3, 31);
        Desk.of("p1").due(TRUE, "deny", 0, 0).found(0, 3 + 1, 1);
        Desk.of("k1", "d1", "p1").due(TRUE, "price", 0).found(0, 0, 1, 2, 16);
        Desk.of(ALL, "p1", "wa k1").due(TRUE, "price", 0).found(0, 0, 1, 24, 31);
        // The lowest three that may be, the highest, and the highest two.
        Desk.of("p1 d1", "d1", "p1").due(TRUE, "price", 0).found(0, 0, 1, 2, 3);
        Desk.of(ALL, "d1 n1 wa k1", "p1 n1 wa k1").due(TRUE, "price", 0).found(0, 0, 29, 30, 31);
        Desk.of(ALL, "d1 n1 wa k1").due(TRUE, "price", 0).found(0, 0, 30, 31);
        // A fourth would cost nothing, but three is all.
        Desk.of("p1", "d1", "n1", "k1").due(TRUE, "price", 0).found(0, 2, 1, 2, 20);
        Desk all = Desk.of("p1", "d1", "p1 d1", "n1", "p1 n1", "d1 n1", "p1 d1 n1", "wa", "p1 wa", "d1 wa");
        all.due(TRUE, "price", 0).due(-1, "form", 3, 0).due(-1, "form", -1, 0);
    }

    @Sentence("a REPORT costs, by the one that costs least for it")
    static void theFormThatCostsLeastCounts() {
        // The last of them has one besides the lower FORM and lacks three of the higher.
        Desk x = Desk.of("p1", "p1", ALL, ALL, "p1 d1").due(TRUE, "price", 2).found(0, 4 + 2, 1, 31);
        x.corrects(4, "n1 k1").found(0, 4 + 1, 1, 31).due(TRUE, "deny", 4, 1).due(TRUE, "deny", 4, 2);
        x.due(TRUE, "deny", 4, 4).found(0, 4, 1, 31).due(TRUE, "deny", 4, 0).found(0, 4 + 1, 1, 31);
    }

    @Sentence("1 for each FIELD of the FORM that it lacks and 2 for each that it has besides")
    static void whatAReportCosts() {
        Desk x = Desk.of("p1 d1", "p1").due(TRUE, "price", 50).found(0, 50 + 1, 3);
        x.reports("p1").found(0, 50 + 2, 1).reports("p1").found(0, 50 + 2, 1);
        Desk.of(ALL).due(TRUE, "deny", 0, 0).reports(ALL).due(TRUE, "price", 50).found(0, 50 + 1, 31);
        Desk y = Desk.of(ALL, "p1", "p1", "p1").due(TRUE, "price", 50).found(0, 50 + 8, 1);
        y.due(TRUE, "price", 0).found(0, 0, 1, 31);
    }

    @Sentence("each FORM costs PRICE (0 .. 50; 3 at first).")
    static void priceIs0To50() {
        Desk x = Desk.of("p1").due(3, "forms", 0).due(TRUE, "price", 0).due(0, "forms", 0);
        x.due(TRUE, "price", 50).due(50, "forms", 0).due(FALSE, "price", 51).due(FALSE, "price", -1);
        x.due(50, "forms", 0).due(TRUE, "price", 1).due(1, "forms", 0).due(TRUE, "price", 49).due(49, "forms", 0);
        String[] items = {"p1", ALL};
        Desk two = new Desk();
        for (int r = 0; r < 10; r++) {
            two.reports(items[r % 2]);
        }
        // One FORM costs 5 times 4, two the PRICE once more.
        two.due(TRUE, "price", 19).found(0, 38, 1, 31).due(TRUE, "price", 20).found(0, 40, 31);
        two.due(TRUE, "price", 21).found(0, 41, 31);
    }

    @Sentence("(none, if no REPORT is known)")
    static void noFormsWithoutAReport() {
        new Desk().found(0, 0).due(TRUE, "price", 50).found(0, 0);
        Desk x = onDay(1, "p1").found(0, 0).found(1, 3, 1).due(TRUE, "price", 0).found(0, 0);
        x.found(1, 0, 1).due(TRUE, "deny", 0, 0).found(1, 1, 1).found(0, 0);
    }

    @Sentence("of several the fewest, then the lowest where they first differ.")
    static void theFewestThenTheLowest() {
        Desk two = Desk.of("p1", "d1").due(TRUE, "price", 1).found(0, 2, 1, 2);
        two.due(TRUE, "price", 2).found(0, 4, 3);
        Desk three = Desk.of("p1", "d1", "k1").due(TRUE, "price", 1).found(0, 3, 1, 2, 16);
        three.due(TRUE, "price", 2).found(0, 6, 1, 18);
        // One FORM of two that fit alike, in the first place, the second and the third.
        String[] like = {"n1 wa", "n1", "n1"};
        Desk.of(like).found(0, 3 + 2, 4);
        Desk.of(like).due(TRUE, "price", 0).found(0, 0, 4, 12);
        Desk.of(like).reports("p1 d1 k1", "p1 d1 k1").due(TRUE, "price", 2).found(0, 4 + 2, 4, 19);
        Desk.of(like).reports("p1", "p1", "p1").due(TRUE, "price", 2).found(0, 4 + 2, 1, 4);
        Desk.of(like).reports("p1", "p1", "p1", "d1", "d1", "d1").due(TRUE, "price", 0).found(0, 2, 1, 2, 4);
    }
}
