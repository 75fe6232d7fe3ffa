import java.util.function.Supplier;

/** A test for each sentence of the promises 1 to 24 that names a boundary case. */
public final class PromiseBoundsTest {
    private static final int TRUE = Desk.TRUE;
    private static final int FALSE = Desk.FALSE;
    private static final int MIN = Integer.MIN_VALUE;
    private static final int MAX = Integer.MAX_VALUE;
    private static final int BLANKS = 0x20202020;
    private static final String ALL = "p1 d1 n1-2 wab,c k1";

    public static void main(String[] args) {
        Sentences.runAll(PromiseBoundsTest.class);
    }

    /** Three REPORTS, two changes, hands, and a TEXT on the TAPE; NOW is 2. */
    private static Desk some() {
        Desk x = Desk.of("p1 d2 n3-4 wann,bob k1", "p1 d5");
        x.call("days", 2);
        x.corrects(0, "d3 wann,cynthi").reports("n3 wann").due(TRUE, "deny", 1, 1);
        x.due(TRUE, "hand", 0, 1, 1).due(TRUE, "hand", 1, 2, 2).due(TRUE, "opens", 7).due(TRUE, "price", 2);
        return x.feed("p8 d7");
    }

    private static Desk someWithAFault() {
        return some().feed(" x1");
    }

    private static Desk someWithoutATape() {
        return some().due(TRUE, "end", 0);
    }

    private static Desk tenReports() {
        return Desk.of("p1", "d1", "n1", "wa", "k1", "p1", "d2", "n2", "wa", "k2").feed("p8 d7");
    }

    private static Desk sixtyChanges() {
        Desk x = Desk.of(ALL, "p1");
        for (int i = 0; i < 30; i++) {
            x.corrects(0, "d" + i).due(TRUE, "deny", 1, i % 5);
        }
        return x.feed("p8 d7");
    }

    private static Desk lastDay() {
        Desk x = some();
        return x.due(1000, "days", 998);
    }

    private static Desk fullTape() {
        return some().feed(" ".repeat(95)).due(100, "count", 3);
    }

    /** Two REPORTS of DAY 0 and one of DAY 2, which is NOW. */
    private static Desk laterOne() {
        Desk x = Desk.of(ALL, "p1");
        return x.due(2, "days", 2).reports(ALL);
    }

    private static void refusedOutside(Supplier<Desk> make, int want, int place, int lowest, int highest, String name,
            int... numbers) {
        for (int number : new int[] {lowest - 1, highest + 1, MIN, MAX}) {
            int[] changed = numbers.clone();
            changed[place] = number;
            Desk.refused(make, want, name, changed);
        }
    }

    // ---- Promise 1: A new object

    @Sentence("`TidingsDesk()`: DAY 0, nothing.")
    static void p01aNewObjectHasNothing() {
        Desk x = new Desk();
        for (int what = 0; what <= 5; what++) {
            x.due(0, "count", what);
        }
        x.due(0, "fault").due(-1, "report").due(FALSE, "correct", 0).due(FALSE, "deny", 0, 0);
        x.due(FALSE, "hand", 0, 1, 1).due(-1, "field", 0, 0, 0).due(-1, "upper", 0, 0).due(-1, "letter", 0, 0, 0, 0);
        x.due(-1000, "pair", 0, 1, 0).due(-1, "group", 0, 0).due(0, "cost", 0).due(0, "groups", 0);
        x.happens(0, 0, -1, -1, -1, -1, -1, -1, -1).due(0, "at", 0, 0).due(0, "shape", 0, 0).found(0, 0);
        x.due(-10000, "cost", 1).due(-1, "groups", 1).due(-1, "forms", 1);
    }

    @Sentence("`TidingsDesk()`: DAY 0, nothing.")
    static void p01objectsShareNothing() {
        Desk other = new Desk();
        some();
        sixtyChanges();
        for (int what = 0; what <= 5; what++) {
            other.due(0, "count", what);
        }
        other.reports("p1").due(10, "cost", 0).due(3, "forms", 0);
    }

    // ---- Promise 2: days

    @Sentence("n DAYS go by (0 .. 1,000): NOW.")
    static void p02daysTakes0To1000() {
        new Desk().due(0, "days", 0).due(0, "count", 0);
        new Desk().due(1, "days", 1).due(1, "count", 0);
        new Desk().due(999, "days", 999).due(999, "count", 0);
        new Desk().due(1000, "days", 1000).due(1000, "count", 0);
    }

    @Sentence("NONE: n, or NOW would be above 1,000.")
    static void p02daysRefusesN() {
        refusedOutside(PromiseBoundsTest::some, -1, 0, 0, 1000, "days", 0);
        new Desk().outside(-1, 0, 0, 1000, "days", 0).due(0, "count", 0);
    }

    @Sentence("NONE: n, or NOW would be above 1,000.")
    static void p02nowIsNeverAbove1000() {
        Desk.refused(PromiseBoundsTest::some, -1, "days", 999);
        Desk.refused(PromiseBoundsTest::some, -1, "days", 1000);
        some().due(1000, "days", 998);
        Desk.refused(PromiseBoundsTest::lastDay, -1, "days", 1);
        Desk.refused(PromiseBoundsTest::lastDay, -1, "days", 1000);
        Desk.refused(PromiseBoundsTest::lastDay, -1, "days", MAX);
        Desk.refused(PromiseBoundsTest::lastDay, -1, "days", -1);
        lastDay().due(1000, "days", 0).due(1000, "count", 0);
    }

    // ---- Promise 3: feed

    @Sentence("Twenty bytes more come to the TAPE (of each number the highest first")
    static void p03theHighestByteFirst() {
        Desk x = new Desk().feed("p12 d345 n6789 wabcd").due(20, "count", 3).due(-1, "fault").due(0, "report");
        x.due(12, "field", 0, 0, 0).due(345, "field", 0, 1, 0).due(6789, "field", 0, 2, 0);
        for (int j = 0; j < 4; j++) {
            x.due('a' + j, "letter", 0, 0, j, 0);
        }
    }

    @Sentence("bytes of 0 are left out")
    static void p03bytesOf0AreLeftOut() {
        Desk x = new Desk().due(0, "feed", 0, 0, 0, 0, 0);
        x.due(6, "feed", 'p', '1' << 8, '2' << 16, ' ' << 24, 'k' << 24 | '1').due(-1, "fault").due(0, "report");
        x.due(12, "field", 0, 0, 0).due(1, "field", 0, 4, 0);
        for (int i = 0; i < 20; i++) {
            int[] five = {BLANKS, BLANKS, BLANKS, BLANKS, BLANKS};
            five[i / 4] &= ~(255 << 8 * (i % 4));
            x.due(19, "feed", five).due(TRUE, "end", 0);
        }
    }

    @Sentence("bytes of 0 are left out")
    static void p03allOtherBytesCome() {
        for (int one : new int[] {1, 127, 128, 255}) {
            int four = one * 0x01010101;
            new Desk().due(20, "feed", four, four, four, four, four).due(0, "fault");
        }
        new Desk().due(4, "feed", 0x80, 0x8000, 0x800000, 0x80000000, 0).due(20, "feed", -1, -1, -1, -1, 0);
    }

    @Sentence("NONE: more than 100.")
    static void p03theTapeHas100BytesAtMost() {
        Desk x = new Desk();
        for (int i = 1; i <= 5; i++) {
            x.due(20 * i, "feed", BLANKS, BLANKS, BLANKS, BLANKS, BLANKS);
        }
        x.due(100, "count", 3).due(100, "feed", 0, 0, 0, 0, 0).due(-1, "feed", 0, 0, 0, 0, 1).due(100, "count", 3);
        x.due(TRUE, "end", 99).due(-1, "feed", 1, 1, 0, 0, 0).due(99, "count", 3).due(100, "feed", 0, 0, 1, 0, 0);
        x.due(TRUE, "end", 81).due(-1, "feed", BLANKS, BLANKS, BLANKS, BLANKS, BLANKS).due(81, "count", 3);
        x.due(TRUE, "end", 80).due(100, "feed", BLANKS, BLANKS, BLANKS, BLANKS, BLANKS);
    }

    @Sentence("NONE: more than 100.")
    static void p03aRefusedFeedBringsNothing() {
        for (int i = 0; i < 5; i++) {
            int[] five = new int[5];
            five[i] = 0x20;
            Desk.refused(PromiseBoundsTest::fullTape, -1, "feed", five);
            five[i] = 0x78780000;
            Desk.refused(() -> fullTape().due(TRUE, "end", 99), -1, "feed", five);
        }
        Desk.refused(() -> fullTape().due(TRUE, "end", 81), -1, "feed", -1, -1, -1, -1, -1);
    }

    // ---- Promise 4: end

    @Sentence("The TAPE has its first n bytes alone.")
    static void p04theFirstBytesAlone() {
        Desk x = new Desk().feed("p12 d345").due(TRUE, "end", 8).due(8, "count", 3).due(TRUE, "end", 7);
        x.due(7, "count", 3).feed("9").due(0, "report").due(349, "field", 0, 1, 0).due(12, "field", 0, 0, 0);
        x.feed("k1").due(TRUE, "end", 0).due(0, "count", 3).due(0, "fault").feed("k2").due(1, "report");
        x.due(2, "field", 1, 4, 0).due(16, "shape", 1, 0);
        fullTape().due(TRUE, "end", 100).due(100, "count", 3).due(TRUE, "end", 99).due(99, "count", 3);
    }

    @Sentence("False: n.")
    static void p04endRefusesN() {
        refusedOutside(PromiseBoundsTest::some, FALSE, 0, 0, 5, "end", 0);
        refusedOutside(PromiseBoundsTest::fullTape, FALSE, 0, 0, 100, "end", 0);
        refusedOutside(PromiseBoundsTest::someWithoutATape, FALSE, 0, 0, 0, "end", 0);
        someWithoutATape().due(TRUE, "end", 0).due(FALSE, "end", 1);
        // What was cut off, or became a REPORT, does not come back.
        some().due(TRUE, "end", 2).due(FALSE, "end", 3).due(2, "count", 3);
        some().due(3, "report").due(FALSE, "end", 1).due(FALSE, "end", 5).due(0, "count", 3);
    }

    // ---- Promise 5: fault

    @Sentence("The FAULT of the TAPE; NONE.")
    static void p05theFaultOfTheTape() {
        some().due(-1, "fault").due(-1, "fault").due(5, "count", 3);
        someWithAFault().due(6, "fault").due(6, "fault").due(8, "count", 3).due(TRUE, "end", 5).due(-1, "fault");
        someWithoutATape().due(0, "fault");
        fullTape().due(-1, "fault");
        new Desk().feed(" ".repeat(100)).due(100, "fault");
        new Desk().feed(" ".repeat(99) + "p").due(99, "fault");
        Desk.refused(PromiseBoundsTest::some, -1, "fault");
        Desk.refused(PromiseBoundsTest::someWithAFault, 6, "fault");
    }

    // ---- Promise 6: report

    @Sentence("The TAPE (empty then) is a REPORT: its number.")
    static void p06aReportsNumber() {
        Desk x = new Desk();
        for (int r = 0; r < 10; r++) {
            x.due(r, "days", r == 0 ? 0 : 1).feed("p" + r).due(r, "report").due(0, "count", 3).due(r + 1, "count", 1);
            x.due(0, "fault").due(-1, "report");
        }
        for (int r = 0; r < 10; r++) {
            x.due(r, "field", r, 0, 9).due(-1, "field", r, 0, r - 1).due(r, "field", r, 0, r);
        }
        fullTape().due(3, "report").due(0, "count", 3).due(8, "field", 3, 0, 2).due(3, "shape", 3, 2);
    }

    @Sentence("NONE: a FAULT, there are ten.")
    static void p06reportRefusesAFault() {
        Desk.refused(PromiseBoundsTest::someWithAFault, -1, "report");
        Desk.refused(PromiseBoundsTest::someWithoutATape, -1, "report");
        Desk.refused(() -> someWithoutATape().feed("   "), -1, "report");
        Desk.refused(() -> someWithoutATape().feed("p1 d2 n3 wa,b k1 wc"), -1, "report");
        Desk.refused(Desk::new, -1, "report");
    }

    @Sentence("NONE: a FAULT, there are ten.")
    static void p06reportRefusesTheEleventh() {
        Desk.refused(PromiseBoundsTest::tenReports, -1, "report");
        Desk.refused(() -> tenReports().feed(" x1"), -1, "report");
        tenReports().due(-1, "report").due(5, "count", 3).due(TRUE, "correct", 9).due(8, "field", 9, 0, 0);
        Desk nine = Desk.of("p1", "p1", "p1", "p1", "p1", "p1", "p1", "p1", "p1");
        nine.feed("p2").due(9, "report").feed("p3").due(-1, "report").due(2, "field", 9, 0, 0);
    }

    // ---- Promise 7: correct

    @Sentence("The TAPE (empty then) is a CORRECTION of a REPORT.")
    static void p07aCorrectionTouchesWhatItNames() {
        Desk x = Desk.of(ALL, ALL).corrects(0, "p9").due(0, "count", 3).due(1, "count", 2).due(0, "fault");
        x.due(9, "field", 0, 0, 0).due(1, "field", 0, 1, 0).due(1, "field", 0, 2, 0).due(2, "upper", 0, 0);
        x.due(2, "field", 0, 3, 0).due('b', "letter", 0, 0, 1, 0).due(1, "field", 0, 4, 0).due(1, "field", 1, 0, 0);
        x.corrects(1, "n5").due(5, "field", 1, 2, 0).due(5, "upper", 1, 0).due(2, "upper", 0, 0);
        tenReports().due(TRUE, "correct", 0).due(8, "field", 0, 0, 0).due(1, "field", 1, 1, 0);
        tenReports().due(TRUE, "correct", 9).due(8, "field", 9, 0, 0).due(2, "field", 9, 4, 0);
        fullTape().due(TRUE, "correct", 2).due(0, "count", 3).due(8, "field", 2, 0, 2);
    }

    @Sentence("False: a FAULT, no such one, there were 60.")
    static void p07correctRefusesAFault() {
        Desk.refused(PromiseBoundsTest::someWithAFault, FALSE, "correct", 0);
        Desk.refused(PromiseBoundsTest::someWithoutATape, FALSE, "correct", 0);
        Desk.refused(() -> someWithoutATape().feed("  "), FALSE, "correct", 0);
    }

    @Sentence("False: a FAULT, no such one, there were 60.")
    static void p07correctRefusesNoSuchOne() {
        refusedOutside(PromiseBoundsTest::some, FALSE, 0, 0, 2, "correct", 0);
        refusedOutside(PromiseBoundsTest::tenReports, FALSE, 0, 0, 9, "correct", 0);
        Desk.refused(() -> new Desk().feed("p1"), FALSE, "correct", 0);
        for (int report = 0; report <= 2; report++) {
            some().due(TRUE, "correct", report);
        }
    }

    @Sentence("False: a FAULT, no such one, there were 60.")
    static void p07correctRefusesThe61st() {
        Desk.refused(PromiseBoundsTest::sixtyChanges, FALSE, "correct", 0);
        Desk.refused(PromiseBoundsTest::sixtyChanges, FALSE, "correct", 1);
        Desk x = Desk.of("p1");
        for (int i = 1; i <= 60; i++) {
            x.corrects(0, "d" + i).due(i, "count", 2);
        }
        x.feed("d61").due(FALSE, "correct", 0).due(60, "field", 0, 1, 0).due(3, "count", 3).due(60, "count", 2);
        // Refused ones are not counted, and a REPORT is none of them.
        x.due(1, "report").due(61, "field", 1, 1, 0).due(FALSE, "deny", 1, 1);
    }

    // ---- Promise 8: deny

    @Sentence("A DENIAL.")
    static void p08aDenialTouchesWhatItNames() {
        for (int f = 0; f < 5; f++) {
            Desk x = Desk.of(ALL, ALL).due(1, "days", 1).due(TRUE, "deny", 1, f).due(1, "count", 2);
            x.due(31 & ~(1 << f), "shape", 1, 1).due(31, "shape", 1, 0).due(31, "shape", 0, 1);
            x.due(-1, "field", 1, f, 1);
            x.due(f == 2 ? -1 : 2, "upper", 1, 1).due(f == 3 ? -1 : 'c', "letter", 1, 1, 0, 1);
            // The last of what is denied twice is counted as the first was.
            x.due(TRUE, "deny", 1, f).due(2, "count", 2).due(31 & ~(1 << f), "shape", 1, 1);
        }
        some().due(TRUE, "deny", 0, 0).due(5, "count", 3).due(-1, "fault");
    }

    @Sentence("False: no such REPORT, FIELD, there were 60.")
    static void p08denyRefusesNoSuchReport() {
        refusedOutside(PromiseBoundsTest::some, FALSE, 0, 0, 2, "deny", 0, 0);
        refusedOutside(PromiseBoundsTest::tenReports, FALSE, 0, 0, 9, "deny", 0, 0);
        Desk.refused(Desk::new, FALSE, "deny", 0, 0);
        tenReports().due(TRUE, "deny", 0, 0).due(TRUE, "deny", 9, 4).due(0, "shape", 0, 0).due(0, "shape", 9, 0);
    }

    @Sentence("False: no such REPORT, FIELD, there were 60.")
    static void p08denyRefusesNoSuchField() {
        refusedOutside(PromiseBoundsTest::some, FALSE, 1, 0, 4, "deny", 0, 0);
        Desk.refused(PromiseBoundsTest::some, FALSE, "deny", 0, 32);
        Desk.refused(PromiseBoundsTest::some, FALSE, "deny", 0, -32);
        some().due(TRUE, "deny", 0, 0).due(TRUE, "deny", 0, 4).due(2 + 4 + 8, "shape", 0, 2);
    }

    @Sentence("False: no such REPORT, FIELD, there were 60.")
    static void p08denyRefusesThe61st() {
        Desk.refused(PromiseBoundsTest::sixtyChanges, FALSE, "deny", 0, 0);
        Desk.refused(PromiseBoundsTest::sixtyChanges, FALSE, "deny", 1, 4);
        Desk x = Desk.of("p1 k1");
        for (int i = 1; i <= 60; i++) {
            x.due(TRUE, "deny", 0, i % 4).due(i, "count", 2);
        }
        x.due(FALSE, "deny", 0, 4).due(1, "field", 0, 4, 0).due(60, "count", 2);
    }

    // ---- Promise 9: hand

    @Sentence("A hand tells two REPORTS TOGETHER (1), APART (2) or neither (0, as at first), for all DAYS.")
    static void p09aHandTellsThreeWords() {
        Desk x = Desk.of("p1", "p2").due(TRUE, "opens", 0).grouped(0, 0, 0, 1);
        int[][] words = {{0, 0, 6, 0}, {1, 6, 6, 1}, {2, 0, 1000, 0}, {1, 6, 6, 1}, {0, 0, 6, 0}, {2, 0, 1000, 0}};
        for (int[] word : words) {
            x.due(TRUE, "hand", 0, 1, word[0]).due(word[1], "cost", 0).due(word[2], "pair", 1, 0, 0);
            x.due(word[3], "count", 4).due(word[0] == 2 ? 1 : 0, "count", 5);
            x.due(TRUE, "hand", 1, 0, word[0]).due(word[3], "count", 4);
        }
    }

    @Sentence("A hand tells two REPORTS TOGETHER (1), APART (2) or neither (0, as at first), for all DAYS.")
    static void p09aHandTellsForAllDays() {
        Desk x = Desk.of("p1", "p1").due(1000, "days", 1000).grouped(0, 10, 0, 0).grouped(1000, 10, 0, 0);
        x.due(TRUE, "hand", 0, 1, 2).grouped(0, 20, 0, 1).grouped(500, 20, 0, 1).grouped(1000, 20, 0, 1);
        x.due(1000, "pair", 0, 1, 0).due(TRUE, "hand", 0, 1, 0).grouped(0, 10, 0, 0).grouped(1000, 10, 0, 0);
        Desk y = laterOne().due(TRUE, "hand", 0, 2, 2).due(-1000, "pair", 0, 2, 1).due(1000, "pair", 0, 2, 2);
        y.grouped(1, 10, 0, 0).due(1, "count", 5);
    }

    @Sentence("False: no such ones, alike, no such word.")
    static void p09handRefusesNoSuchOnes() {
        refusedOutside(PromiseBoundsTest::some, FALSE, 0, 0, 2, "hand", 0, 1, 1);
        refusedOutside(PromiseBoundsTest::some, FALSE, 1, 0, 2, "hand", 0, 1, 2);
        refusedOutside(PromiseBoundsTest::tenReports, FALSE, 0, 0, 9, "hand", 0, 1, 1);
        refusedOutside(PromiseBoundsTest::tenReports, FALSE, 1, 0, 9, "hand", 0, 1, 2);
        Desk.refused(Desk::new, FALSE, "hand", 0, 1, 1);
        Desk.of("p1").due(FALSE, "hand", 0, 1, 1).due(FALSE, "hand", 1, 0, 1).reports("p1").due(TRUE, "hand", 0, 1, 1);
        tenReports().due(TRUE, "hand", 0, 9, 1).due(TRUE, "hand", 9, 8, 2).due(1, "count", 4).due(1, "count", 5);
    }

    @Sentence("False: no such ones, alike, no such word.")
    static void p09handRefusesAlike() {
        for (int report = 0; report <= 3; report++) {
            for (int word = 0; word <= 2; word++) {
                Desk.refused(PromiseBoundsTest::some, FALSE, "hand", report, report, word);
            }
        }
        Desk.refused(PromiseBoundsTest::some, FALSE, "hand", -1, -1, 1);
        Desk.refused(PromiseBoundsTest::some, FALSE, "hand", MAX, MAX, 1);
    }

    @Sentence("False: no such ones, alike, no such word.")
    static void p09handRefusesNoSuchWord() {
        refusedOutside(PromiseBoundsTest::some, FALSE, 2, 0, 2, "hand", 0, 1, 0);
        refusedOutside(PromiseBoundsTest::some, FALSE, 2, 0, 2, "hand", 2, 0, 0);
    }

    // ---- Promises 10 and 11: opens, price

    @Sentence("`boolean opens(int cost)`: OPEN. False: out of bounds.")
    static void p10opensTakes0To100() {
        Desk x = Desk.of("k0", "k1", "k2");
        for (int cost : new int[] {0, 1, 99, 100}) {
            x.due(TRUE, "opens", cost).due(3 * cost, "cost", 0);
        }
        refusedOutside(PromiseBoundsTest::some, FALSE, 0, 0, 100, "opens", 0);
        // OPEN is what it is for all DAYS, and may come ahead of all REPORTS.
        Desk y = new Desk().due(TRUE, "opens", 100).reports("p1").due(5, "days", 5).due(100, "cost", 0);
        y.due(TRUE, "opens", 0).due(0, "cost", 0).due(0, "cost", 5).due(FALSE, "opens", 101).due(0, "cost", 5);
    }

    @Sentence("`boolean price(int cost)`: PRICE. False: out of bounds.")
    static void p11priceTakes0To50() {
        Desk x = Desk.of("p1", "p1");
        for (int cost : new int[] {0, 1, 49, 50}) {
            x.due(TRUE, "price", cost).found(0, cost, 1);
        }
        refusedOutside(PromiseBoundsTest::some, FALSE, 0, 0, 50, "price", 0);
        Desk y = new Desk().due(TRUE, "price", 50).reports("p1").due(5, "days", 5).due(50, "forms", 0);
        y.due(TRUE, "price", 0).due(0, "forms", 0).due(0, "forms", 5).due(FALSE, "price", 51).due(0, "forms", 5);
    }

    // ---- Promises 12 to 14: field, upper, letter

    @Sentence("A FIELD of a REPORT as known: p, d, k: it; n: the lower end; w: how many names.")
    static void p12aFieldAsKnown() {
        int[] least = {0, 0, 0, 1, 0};
        int[] most = {99, 999, 9999, 3, 2};
        Desk x = Desk.of("p0 d0 n0-9999 wa k0", "p99 d999 n9999 wa,b,c k2");
        for (int f = 0; f < 5; f++) {
            x.due(least[f], "field", 0, f, 0).due(most[f], "field", 1, f, 0);
        }
    }

    @Sentence("NONE: none, no such, not known.")
    static void p12fieldWithoutOne() {
        String[] items = {"p0", "d0", "n0", "wa", "k0"};
        Desk x = Desk.of(items);
        for (int r = 0; r < 5; r++) {
            for (int f = 0; f < 5; f++) {
                x.due(r != f ? -1 : f == 3 ? 1 : 0, "field", r, f, 0);
            }
        }
        Desk y = laterOne();
        for (int f = 0; f < 5; f++) {
            y.outside(-1, 0, 0, 2, "field", 0, f, 2).outside(-1, 2, 0, 2, "field", 0, f, 0);
            y.due(-1, "field", 2, f, 0).due(-1, "field", 2, f, 1).due(f == 3 ? 2 : 1, "field", 2, f, 2);
        }
        y.outside(-1, 1, 0, 4, "field", 0, 0, 2).due(-1, "field", 0, 32, 2).due(-1, "field", 0, -32, 2);
        tenReports().outside(-1, 0, 0, 9, "field", 0, 0, 0).due(2, "field", 9, 4, 0).due(1, "field", 0, 0, 0);
    }

    @Sentence("The upper end of a REPORT's n. NONE likewise.")
    static void p13upper() {
        Desk x = Desk.of("n0", "n9999", "n0-9999", "n0-0", "p1");
        x.due(0, "upper", 0, 0).due(9999, "upper", 1, 0).due(9999, "upper", 2, 0).due(0, "upper", 3, 0);
        x.due(-1, "upper", 4, 0).outside(-1, 0, 0, 4, "upper", 0, 0).outside(-1, 1, 0, 0, "upper", 0, 0);
        x.due(1, "days", 1).due(TRUE, "deny", 2, 2).due(-1, "upper", 2, 1).due(9999, "upper", 2, 0);
        laterOne().due(-1, "upper", 2, 1).due(2, "upper", 2, 2).due(-1, "upper", 2, 3).due(-1, "upper", 1, 2);
    }

    @Sentence("Letter j of name i of a REPORT as known (its byte).")
    static void p14letters() {
        Desk x = Desk.of("wa,zyxwvu,mn");
        x.due('a', "letter", 0, 0, 0, 0).due('m', "letter", 0, 2, 0, 0).due('n', "letter", 0, 2, 1, 0);
        for (int j = 0; j < 6; j++) {
            x.due('z' - j, "letter", 0, 1, j, 0);
        }
    }

    @Sentence("NONE without, or likewise.")
    static void p14letterWithoutOne() {
        Desk x = Desk.of("wa,zyxwvu,mn", "wab", "p1", "wa,b");
        x.outside(-1, 2, 0, 0, "letter", 0, 0, 0, 0).outside(-1, 2, 0, 5, "letter", 0, 1, 0, 0);
        x.outside(-1, 2, 0, 1, "letter", 0, 2, 0, 0).outside(-1, 2, 0, 1, "letter", 1, 0, 0, 0);
        x.outside(-1, 1, 0, 2, "letter", 0, 0, 0, 0).outside(-1, 1, 0, 0, "letter", 1, 0, 0, 0);
        x.outside(-1, 1, 0, 1, "letter", 3, 0, 0, 0).due(-1, "letter", 2, 0, 0, 0);
        x.outside(-1, 0, 0, 3, "letter", 0, 0, 0, 0).outside(-1, 3, 0, 0, "letter", 0, 0, 0, 0);
        x.due(1, "days", 1).due(TRUE, "deny", 0, 3).due(-1, "letter", 0, 0, 0, 1).due('a', "letter", 0, 0, 0, 0);
        laterOne().due(-1, "letter", 2, 0, 0, 1).due('a', "letter", 2, 0, 0, 2).due(-1, "letter", 2, 0, 0, 3);
    }

    // ---- Promise 15: pair

    @Sentence("COST of a PAIR as known. 1,000: they MUST NOT be one.")
    static void p15aPairAsKnown() {
        Desk x = Desk.of("d0", "d9").due(9, "pair", 0, 1, 0).due(1, "days", 1).corrects(1, "d10");
        x.due(1000, "pair", 0, 1, 1).due(9, "pair", 0, 1, 0).due(2, "days", 1).due(TRUE, "deny", 0, 1);
        x.due(0, "pair", 0, 1, 2).due(1000, "pair", 1, 0, 1).due(TRUE, "hand", 0, 1, 2).due(1000, "pair", 0, 1, 2);
    }

    @Sentence("-1,000: no such ones, alike, not known.")
    static void p15pairRefuses() {
        Desk x = laterOne().outside(-1000, 0, 0, 2, "pair", 0, 1, 2).outside(-1000, 1, 0, 2, "pair", 1, 0, 2);
        for (int r = -1; r <= 3; r++) {
            x.due(-1000, "pair", r, r, 2);
        }
        x.due(-1000, "pair", 0, 2, 1).due(-1000, "pair", 2, 0, 1).due(0, "pair", 0, 1, 1).due(-12, "pair", 2, 0, 2);
        x.outside(-1000, 2, 0, 2, "pair", 0, 1, 0).due(-1000, "pair", MIN, MAX, 2).due(-1000, "pair", 3, 4, 2);
        // That a hand told them APART makes none of them known, nor a REPORT unlike itself.
        x.due(TRUE, "hand", 0, 2, 2).due(-1000, "pair", 0, 2, 1).due(-1000, "pair", 0, 0, 2).due(1000, "pair", 0, 2, 2);
        tenReports().due(1000, "pair", 4, 9, 0).due(-1000, "pair", 9, 10, 0).due(-1000, "pair", 9, 9, 0);
    }

    // ---- Promises 16 to 20: group, cost, groups, happening, at

    @Sentence("The lowest REPORT of a REPORT's GROUP by the LEAST GROUPING.")
    static void p16theLowestReportOfAGroup() {
        Desk x = Desk.of("k0", "k1", "k0", "k1", "k0", "k1", "k0", "k1", "k0", "k1");
        x.grouped(0, 20, 0, 1, 0, 1, 0, 1, 0, 1, 0, 1);
        Desk y = Desk.of("k0", "k0", "k0", "k0", "k0", "k0", "k0", "k0", "k0", "k1");
        y.grouped(0, 20, 0, 0, 0, 0, 0, 0, 0, 0, 0, 9);
    }

    @Sentence("NONE: no such one, not known, q; there is none.")
    static void p16groupRefuses() {
        Desk x = laterOne().outside(-1, 0, 0, 2, "group", 0, 2).outside(-1, 1, 0, 2, "group", 0, 2);
        x.due(-1, "group", 2, 1).due(0, "group", 2, 2).due(-1, "group", 2, 3).due(-1, "group", 2, -1);
        x.due(TRUE, "hand", 0, 1, 2).due(TRUE, "hand", 0, 2, 1).due(TRUE, "hand", 1, 2, 1);
        x.due(-1, "group", 0, 2).due(-1, "group", 1, 2).due(-1, "group", 2, 2).grouped(1, 20, 0, 1);
        // Of the ten, 9 goes to 6, which is off the earlier GROUP for its date.
        tenReports().outside(-1, 0, 0, 9, "group", 0, 0).due(0, "group", 0, 0).due(6, "group", 9, 0);
    }

    @Sentence("COST of the LEAST GROUPING. -10,000: there is none, no such q.")
    static void p17cost() {
        Desk x = laterOne().outside(-10000, 0, 0, 2, "cost", 0).due(10, "cost", 0).due(-2, "cost", 2);
        x.due(TRUE, "hand", 0, 2, 2).due(TRUE, "hand", 0, 1, 1).due(TRUE, "hand", 1, 2, 1);
        x.due(10, "cost", 0).due(10, "cost", 1).due(-10000, "cost", 2).due(-10000, "cost", 3);
        new Desk().due(0, "cost", 0).outside(-10000, 0, 0, 0, "cost", 0);
        // What is gained elsewhere makes up for no MUST NOT.
        Desk y = Desk.of("wa,b,c", "wa,b,c", "k1", "k2").due(TRUE, "opens", 0).due(TRUE, "hand", 2, 3, 1);
        y.due(-10000, "cost", 0).due(TRUE, "hand", 2, 3, 0).due(-18, "cost", 0);
    }

    @Sentence("How many GROUPS it has. NONE: there is none, no such q.")
    static void p18groups() {
        new Desk().due(0, "groups", 0).outside(-1, 0, 0, 0, "groups", 0);
        Desk x = Desk.of("p1", "p1", "p1", "p1", "p1", "p1", "p1", "p1", "p1", "p1").due(1, "groups", 0);
        x.due(1, "days", 1).hands(10, 2).due(10, "groups", 0).due(10, "groups", 1).outside(-1, 0, 0, 1, "groups", 0);
        Desk y = laterOne().due(TRUE, "hand", 0, 2, 2).due(TRUE, "hand", 0, 1, 1).due(TRUE, "hand", 1, 2, 1);
        y.due(-1, "groups", 2).due(1, "groups", 1).due(TRUE, "hand", 1, 2, 0).due(2, "groups", 2);
    }

    @Sentence("Of a REPORT's GROUP: 0 place, 1 date, 2 the number's lower, 3 its upper end, 4 kind, 5 how many REPORTS, "
        + "6 whether there is a QUARREL (1).")
    static void p19happening() {
        Desk x = Desk.of("p0 d0 n0-9999 k0", "p99 d999 n9999 k2").happens(0, 0, 0, 0, 0, 9999, 0, 1, 0);
        x.happens(1, 0, 99, 999, 9999, 9999, 2, 1, 0).outside(-1, 1, 0, 6, "happening", 0, 0, 0);
        Desk ten = Desk.of("p1", "p1", "p1", "p1", "p1", "p1", "p1", "p1", "p1", "n1");
        ten.happens(9, 0, 1, -1, 1, 1, -1, 10, 0).happens(0, 0, 1, -1, 1, 1, -1, 10, 0);
    }

    @Sentence("NONE likewise as group(), or none.")
    static void p19happeningWithoutOne() {
        Desk x = laterOne();
        for (int what = 0; what <= 6; what++) {
            x.outside(-1, 0, 0, 2, "happening", 0, what, 2).outside(-1, 2, 0, 2, "happening", 0, what, 2);
            x.due(-1, "happening", 2, what, 1);
        }
        x.happens(2, 2, 1, 1, 1, 2, 1, 3, 0).due(TRUE, "hand", 0, 2, 2).due(TRUE, "hand", 0, 1, 1);
        x.due(TRUE, "hand", 1, 2, 1).happens(0, 2, -1, -1, -1, -1, -1, -1, -1).happens(0, 1, 1, 1, 1, 2, 1, 2, 0);
        Desk.of("wa").happens(0, 0, -1, -1, -1, -1, -1, 1, 0);
    }

    @Sentence("-2: doubtful; 2, 3 with a QUARREL.")
    static void p19doubtfulOrQuarrelling() {
        Desk x = Desk.of("p1 d1 n1-4 k1", "p2 d2 n5-9 k1").hands(2, 1).happens(0, 0, -2, -2, -2, -2, 1, 2, 1);
        x.due(1, "days", 1).corrects(1, "p1 d1 n4-9").happens(1, 1, 1, 1, 4, 4, 1, 2, 0);
        x.happens(1, 0, -2, -2, -2, -2, 1, 2, 1).corrects(0, "n3").happens(0, 1, 1, 1, -2, -2, 1, 2, 1);
        x.due(TRUE, "deny", 0, 2).happens(0, 1, 1, 1, 4, 9, 1, 2, 0).due(TRUE, "deny", 1, 2);
        x.happens(0, 1, 1, 1, -1, -1, 1, 2, 0);
    }

    @Sentence("How many GROUPS have a place (that is not doubtful).")
    static void p20at() {
        Desk x = Desk.of("p0 k0", "p0 k1", "p99 k2", "p0 k0").due(2, "at", 0, 0).due(1, "at", 99, 0).due(0, "at", 1, 0);
        x.due(0, "at", 98, 0).due(1, "days", 1).corrects(3, "p5").due(1, "at", 0, 1).due(0, "at", 5, 1);
        x.due(2, "at", 0, 0).due(TRUE, "deny", 0, 0).due(1, "at", 5, 1).due(1, "at", 0, 1);
        Desk ten = Desk.of("p9", "p9", "p9", "p9", "p9", "p9", "p9", "p9", "p9", "p9").due(1, "at", 9, 0);
        ten.hands(10, 2).due(10, "at", 9, 0).due(0, "at", 0, 0);
        Desk.of("d1").due(0, "at", 0, 0).due(0, "at", 99, 0);
    }

    @Sentence("NONE: no such place, q, no GROUPING.")
    static void p20atRefuses() {
        Desk x = laterOne().outside(-1, 0, 0, 99, "at", 0, 2).outside(-1, 1, 0, 2, "at", 1, 0);
        x.due(-1, "at", -2, 2).due(0, "at", 0, 2).due(0, "at", 99, 2).due(1, "at", 1, 2);
        x.due(TRUE, "hand", 0, 2, 2).due(TRUE, "hand", 0, 1, 1).due(TRUE, "hand", 1, 2, 1);
        x.due(-1, "at", 1, 2).due(-1, "at", 0, 2).due(1, "at", 1, 1);
        new Desk().due(0, "at", 0, 0).due(0, "at", 99, 0).due(-1, "at", 100, 0).due(-1, "at", -1, 0);
        // Neither of NONE nor of what is doubtful is there a place to ask for.
        Desk y = Desk.of("d1 k0", "p1 k1", "p2 k1").due(TRUE, "hand", 1, 2, 1).due(2, "groups", 0);
        y.due(-1, "at", -1, 0).due(-1, "at", -2, 0).due(0, "at", 1, 0).due(0, "at", 2, 0);
    }

    // ---- Promises 21 to 24: shape, form, forms, count

    @Sentence("SHAPE. 0: no such REPORT, not known.")
    static void p21shape() {
        Desk x = laterOne().outside(0, 0, 0, 2, "shape", 0, 2).outside(0, 1, 0, 2, "shape", 0, 0);
        x.due(0, "shape", 2, 1).due(31, "shape", 2, 2).due(0, "shape", 2, 3).due(31, "shape", 0, 0);
        tenReports().outside(0, 0, 0, 9, "shape", 0, 0).due(1, "shape", 0, 0).due(16, "shape", 9, 0);
    }

    @Sentence("The i-th of the FORMS FOUND. NONE without, or no such q.")
    static void p22form() {
        Desk one = Desk.of("p1").due(1, "form", 0, 0).outside(-1, 0, 0, 0, "form", 0, 0);
        one.outside(-1, 1, 0, 0, "form", 0, 0).reports("k1").due(TRUE, "price", 0).found(0, 0, 1, 16);
        one.outside(-1, 0, 0, 1, "form", 0, 0).reports("d1").found(0, 0, 1, 2, 16);
        one.outside(-1, 0, 0, 2, "form", 0, 0).outside(-1, 1, 0, 0, "form", 2, 0);
        new Desk().outside(-1, 0, 0, -1, "form", 0, 0).due(-1, "form", 1, 0).due(-1, "form", 0, 1);
    }

    @Sentence("What they cost. NONE: no such q.")
    static void p23forms() {
        new Desk().due(0, "forms", 0).outside(-1, 0, 0, 0, "forms", 0);
        Desk x = laterOne().outside(-1, 0, 0, 2, "forms", 0).due(6, "forms", 0).due(6, "forms", 1).due(6, "forms", 2);
        x.due(TRUE, "price", 50).due(54, "forms", 0).due(54, "forms", 2).due(1000, "days", 998);
        x.due(54, "forms", 1000).due(-1, "forms", 1001);
        // That there is no GROUPING takes no FORMS away.
        x.due(TRUE, "hand", 0, 2, 2).due(TRUE, "hand", 0, 1, 1).due(TRUE, "hand", 1, 2, 1).due(54, "forms", 2);
    }

    @Sentence("0 NOW, 1 REPORTS, 2 CORRECTIONS and DENIALS, 3 bytes of the TAPE, 4 pairs that a hand told TOGETHER, "
        + "5 APART.")
    static void p24count() {
        some().due(2, "count", 0).due(3, "count", 1).due(2, "count", 2).due(5, "count", 3).due(1, "count", 4)
            .due(1, "count", 5);
        lastDay().due(1000, "count", 0);
        tenReports().due(10, "count", 1).hands(10, 1).due(45, "count", 4).due(0, "count", 5).hands(10, 2)
            .due(0, "count", 4).due(45, "count", 5).hands(10, 0).due(0, "count", 4).due(0, "count", 5);
        sixtyChanges().due(60, "count", 2);
        fullTape().due(100, "count", 3);
        laterOne().due(TRUE, "hand", 0, 1, 1).due(TRUE, "hand", 1, 0, 1).due(1, "count", 4);
    }

    @Sentence("NONE for others.")
    static void p24countRefuses() {
        some().outside(-1, 0, 0, 5, "count", 0);
        new Desk().outside(-1, 0, 0, 5, "count", 0);
    }

    // ---- The state changes described, and no others

    @Sentence("Nothing is promised beyond the answers and state changes described above")
    static void questionsChangeNothing() {
        for (int q = 0; q <= 2; q++) {
            Desk x = some();
            Sentences.check("all in " + q + " asked again", x.state(q), x.state(q));
            Desk y = some();
            y.state(2 - q);
            Sentences.check("all in " + q + " behind " + (2 - q), y.state(q), some().state(q));
        }
        int[][] numbers = {{0, 0, 2}, {0, 2}, {0, 0, 0, 2}, {0, 1, 2}, {0, 2}, {2}, {2}, {0, 5, 2}, {1, 2}, {0, 2},
            {0, 2}, {2}, {1}};
        int[] answers = {1, 4, 'a', 0, 0, 14, 2, 2, 1, 31, 1, 6, 3};
        String[] names = {"field", "upper", "letter", "pair", "group", "cost", "groups", "happening", "at", "shape",
            "form", "forms", "count"};
        for (int i = 0; i < names.length; i++) {
            Desk.refused(PromiseBoundsTest::some, answers[i], names[i], numbers[i]);
        }
    }
}
