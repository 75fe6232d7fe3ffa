import java.nio.charset.StandardCharsets;
import java.util.function.IntUnaryOperator;

/** One method for each promise of the document: ordinary inputs, its edges, and wrong inputs. */
public final class PromisesTest {
    private static int wrong = 0;
    private static String part = "";

    private static void due(String call, long got, long want) {
        if (got != want) {
            wrong++;
            System.out.println(part + ": " + call + " answered " + got + ", due is " + want);
        }
    }

    private static void due(String call, boolean got, boolean want) {
        due(call, got ? 1 : 0, want ? 1 : 0);
    }

    private static int feed(TidingsDesk x, String text) {
        byte[] bytes = text.getBytes(StandardCharsets.ISO_8859_1);
        int answer = x.feed(0, 0, 0, 0, 0);
        for (int from = 0; from < bytes.length; from += 20) {
            int[] five = new int[5];
            for (int i = 0; i < 20 && from + i < bytes.length; i++) {
                five[i / 4] |= (bytes[from + i] & 255) << 8 * (3 - i % 4);
            }
            answer = x.feed(five[0], five[1], five[2], five[3], five[4]);
        }
        return answer;
    }

    private static int report(TidingsDesk x, String text) {
        feed(x, text);
        return x.report();
    }

    private static boolean correct(TidingsDesk x, int report, String text) {
        feed(x, text);
        return x.correct(report);
    }

    private static TidingsDesk desk(String... texts) {
        TidingsDesk x = new TidingsDesk();
        for (int i = 0; i < texts.length; i++) {
            due("report " + texts[i], report(x, texts[i]), i);
        }
        return x;
    }

    private static void faultDue(String text, int want) {
        TidingsDesk x = new TidingsDesk();
        feed(x, text);
        due("fault of '" + text + "'", x.fault(), want);
        due("bytes left of '" + text + "'", x.count(3), text.length());
        due("report of '" + text + "'", x.report(), want == -1 ? 0 : -1);
        due("bytes behind report of '" + text + "'", x.count(3), want == -1 ? 0 : text.length());
    }

    private static void groupsDue(TidingsDesk x, int q, int cost, int... firsts) {
        for (int r = 0; r < firsts.length; r++) {
            due("group(" + r + ", " + q + ")", x.group(r, q), firsts[r]);
        }
        due("cost(" + q + ")", x.cost(q), cost);
    }

    private static void formsDue(TidingsDesk x, int q, int cost, int... forms) {
        due("forms(" + q + ")", x.forms(q), cost);
        for (int i = 0; i < 4; i++) {
            due("form(" + i + ", " + q + ")", x.form(i, q), i < forms.length ? forms[i] : -1);
        }
    }

    // Calls one with numbers that no method takes for anything that is.
    private static void noneDue(String call, IntUnaryOperator one, int want, int... numbers) {
        int[] far = {Integer.MIN_VALUE, Integer.MAX_VALUE, -1, -2, 1 << 20, 31, 32, 33};
        for (int n : far) {
            due(call + " with " + n, one.applyAsInt(n), want);
        }
        for (int n : numbers) {
            due(call + " with " + n, one.applyAsInt(n), want);
        }
    }

    private static void promise1() {
        TidingsDesk x = new TidingsDesk();
        due("NONE", TidingsDesk.NONE, -1);
        for (int what = 0; what < 6; what++) {
            due("count(" + what + ")", x.count(what), 0);
        }
        due("fault()", x.fault(), 0);
        due("cost(0)", x.cost(0), 0);
        due("groups(0)", x.groups(0), 0);
        due("at(0, 0)", x.at(0, 0), 0);
        due("group(0, 0)", x.group(0, 0), -1);
        formsDue(x, 0, 0);
        TidingsDesk y = new TidingsDesk();
        report(x, "p1");
        due("another object's count(1)", y.count(1), 0);
        due("OPEN at first", x.cost(0), 10);
        due("PRICE at first", x.forms(0), 3);
    }

    private static void promise2() {
        TidingsDesk x = new TidingsDesk();
        due("days(0)", x.days(0), 0);
        due("days(1)", x.days(1), 1);
        for (int n : new int[] {-1, 1000, 1001, Integer.MIN_VALUE, Integer.MAX_VALUE}) {
            due("days(" + n + ")", x.days(n), -1);
        }
        due("days(999)", x.days(999), 1000);
        due("days(1)", x.days(1), -1);
        due("days(0)", x.days(0), 1000);
        due("count(0)", x.count(0), 1000);
        due("all DAYS at once", new TidingsDesk().days(1000), 1000);
        due("a DAY too many at once", new TidingsDesk().days(1001), -1);
    }

    private static void promise3() {
        TidingsDesk x = new TidingsDesk();
        due("nothing", x.feed(0, 0, 0, 0, 0), 0);
        due("zeros left out", x.feed(0x70003100, 0x00000020, 0, 0x64000000, 0x35), 5);
        due("fault()", x.fault(), -1);
        due("report()", x.report(), 0);
        due("place", x.field(0, 0, 0), 1);
        due("date", x.field(0, 1, 0), 5);
        due("high bytes", x.feed(-1, -1, 0x80000000, 0, 0), 9);
        due("end(0)", x.end(0), true);
        int full = 0x20202020;
        for (int i = 1; i <= 4; i++) {
            due("feed " + i, x.feed(full, full, full, full, full), 20 * i);
        }
        due("feed 99", x.feed(full, full, full, full, 0x00202020), 99);
        due("two more are too many", x.feed(0x20000000, 0, 0, 0, 0x20), -1);
        for (int i = 0; i < 5; i++) {
            int[] five = new int[5];
            five[i] = 0x00200020;
            due("two more in number " + i, x.feed(five[0], five[1], five[2], five[3], five[4]), -1);
        }
        due("none of them came", x.count(3), 99);
        due("one more", x.feed(0, 0, 0, 0, 0x20), 100);
        due("one too many", x.feed(0, 0, 0x20, 0, 0), -1);
        due("nothing more", x.feed(0, 0, 0, 0, 0), 100);
        due("fault of 100 blanks", x.fault(), 100);
    }

    private static void promise4() {
        TidingsDesk x = new TidingsDesk();
        due("end(0) of nothing", x.end(0), true);
        due("end(1) of nothing", x.end(1), false);
        feed(x, "p12x");
        due("end(5)", x.end(5), false);
        due("end(-1)", x.end(-1), false);
        due("end(least)", x.end(Integer.MIN_VALUE), false);
        due("count(3)", x.count(3), 4);
        due("end(4)", x.end(4), true);
        due("fault()", x.fault(), 3);
        due("end(3)", x.end(3), true);
        due("end(4) behind end(3)", x.end(4), false);
        due("fault()", x.fault(), -1);
        feed(x, " d7");
        due("report()", x.report(), 0);
        due("place", x.field(0, 0, 0), 12);
        due("date", x.field(0, 1, 0), 7);
    }

    private static void promise5() {
        String[] right = {"p0", "p99", "p0099", "d0", "d999", "n0", "n9999", "n5-5", "n0-9999", "n0001-2", "k0", "k2",
            "k0002", "wa", "wabcdef", "wa,b", "wa,b,c", "wabcdef,bcdefg,cdefgh", "wz,zz,zzz", "wa,aa", "wp,d,n",
            " p1", "p1 ", "  p1  d2  ", "k1 wab n1-2 d3 p4", "wk k1"};
        for (String text : right) {
            faultDue(text, -1);
        }
        String[] first = {"p", "d", "n", "w", "k", "p100", "d1000", "k3", "p00001", "n10000", "n00001", "n5-", "n5-4",
            "n5-00006", "n5- 6", "n-5", "n5--6", "p-1", "p 1", "w", "w,a", "wa,", "wa,,b", "wa,b,", "wa,b,c,",
            "wa,b,c,d", "wabcdefg", "wa,bcdefgh", "wa,a", "wa,b,a", "wa,b,b", "wA", "w1", "x1", "P1", "1", "-", ",",
            "\t", "\u00e1", "pp1", "wa, b", "n5-4x"};
        for (String text : first) {
            faultDue(text, 0);
            faultDue("  " + text, 2);
        }
        faultDue("", 0);
        faultDue(" ", 1);
        faultDue("   ", 3);
        faultDue("p1x", 2);
        faultDue("p1d2", 2);
        faultDue("p1-2", 2);
        faultDue("p1\t", 2);
        faultDue("p1\u0001", 2);
        faultDue("p1\u00ff", 2);
        faultDue("n1-2-3", 4);
        faultDue("n1x", 2);
        faultDue("wab1", 3);
        faultDue("wab-", 3);
        faultDue("wa b", 3);
        faultDue("wa,bX", 4);
        faultDue("p1 p1", 3);
        faultDue("p1 d2 p1", 6);
        faultDue("wa  wb", 4);
        faultDue("n1 n2", 3);
        faultDue("p1 d2x k3", 5);
        faultDue("p1 k3 d2x", 3);
        faultDue("p1 d2 n3 wa k1 x", 15);
        faultDue("p1 d2 n3 wa k1  k1", 16);
        faultDue(" ".repeat(98) + "p1", -1);
        faultDue(" ".repeat(99) + "p", 99);
        faultDue("n" + "9".repeat(99), 0);
        faultDue("w" + "z".repeat(99), 0);
        faultDue("p1" + " ".repeat(98), -1);
    }

    private static void promise6() {
        TidingsDesk x = new TidingsDesk();
        due("empty", x.report(), -1);
        feed(x, "p1 q");
        due("a FAULT", x.report(), -1);
        due("the TAPE stays", x.count(3), 4);
        due("no REPORT came", x.count(1), 0);
        x.end(0);
        for (int i = 0; i < 10; i++) {
            due("report " + i, report(x, "p" + i), i);
            due("the TAPE is empty", x.count(3), 0);
        }
        due("the eleventh", report(x, "p5"), -1);
        due("its TAPE stays", x.count(3), 2);
        due("count(1)", x.count(1), 10);
        for (int i = 0; i < 10; i++) {
            due("place of " + i, x.field(i, 0, 0), i);
        }
        due("a CORRECTION has room yet", x.correct(9), true);
        due("place of 9", x.field(9, 0, 0), 5);
    }

    private static void promise7() {
        TidingsDesk x = desk("p1 d2 n3-4 wab,c k1");
        due("empty", x.correct(0), false);
        feed(x, "p7");
        for (int none : new int[] {1, -1, 10, Integer.MIN_VALUE, Integer.MAX_VALUE}) {
            due("correct(" + none + ")", x.correct(none), false);
        }
        due("the TAPE stays", x.count(3), 2);
        due("count(2)", x.count(2), 0);
        due("correct(0)", x.correct(0), true);
        due("the TAPE is empty", x.count(3), 0);
        due("count(2)", x.count(2), 1);
        due("place", x.field(0, 0, 0), 7);
        due("date stays", x.field(0, 1, 0), 2);
        due("number stays", x.upper(0, 0), 4);
        due("names stay", x.letter(0, 1, 0, 0), 'c');
        due("kind stays", x.field(0, 4, 0), 1);
        x.days(3);
        due("later", correct(x, 0, "n9 wz"), true);
        due("lower", x.field(0, 2, 3), 9);
        due("upper", x.upper(0, 3), 9);
        due("names", x.field(0, 3, 3), 1);
        due("letter", x.letter(0, 0, 0, 3), 'z');
        due("no second name", x.letter(0, 1, 0, 3), -1);
        due("no second letter", x.letter(0, 0, 1, 3), -1);
        due("earlier upper", x.upper(0, 2), 4);
        due("earlier names", x.field(0, 3, 2), 2);
        feed(x, "p1 p2");
        due("a FAULT", x.correct(0), false);
        due("its TAPE stays", x.count(3), 5);
        x.end(0);
        for (int i = 3; i <= 60; i++) {
            due("correction " + i, correct(x, 0, "d" + i), true);
        }
        due("61st", correct(x, 0, "d5"), false);
        due("its TAPE stays", x.count(3), 2);
        due("date", x.field(0, 1, 3), 60);
        due("count(2)", x.count(2), 60);
        due("no DENIAL either", x.deny(0, 1), false);
        due("a REPORT has room yet", x.report(), 1);
    }

    private static void promise8() {
        TidingsDesk x = desk("p1 d2 n3-4 wab,c k1", "p1");
        due("no such FIELD", x.deny(0, 5), false);
        due("no such FIELD", x.deny(0, -1), false);
        due("no such FIELD", x.deny(0, 32), false);
        due("no such REPORT", x.deny(2, 0), false);
        due("no such REPORT", x.deny(-1, 0), false);
        due("count(2)", x.count(2), 0);
        x.days(1);
        for (int f = 0; f < 5; f++) {
            due("deny(0, " + f + ")", x.deny(0, f), true);
            due("denied", x.field(0, f, 1), -1);
            due("the next", x.field(0, f + 1, 1) == -1, f == 4);
            due("shape", x.shape(0, 1), 31 & -1 << f + 1);
            due("not yet denied", x.field(0, f, 0) == -1, false);
        }
        due("upper", x.upper(0, 1), -1);
        due("letter", x.letter(0, 0, 0, 1), -1);
        due("another's", x.field(1, 0, 1), 1);
        due("what it lacks", x.deny(1, 4), true);
        due("and twice", x.deny(1, 4), true);
        due("count(2)", x.count(2), 7);
        due("told anew", correct(x, 0, "wxy"), true);
        due("known again", x.letter(0, 0, 1, 1), 'y');
        due("denied anew", x.deny(0, 3), true);
        due("names", x.field(0, 3, 1), -1);
        for (int i = 10; i <= 60; i++) {
            due("change " + i, x.deny(i % 2, i % 5), true);
        }
        due("61st", x.deny(0, 0), false);
        due("no CORRECTION either", correct(x, 0, "p5"), false);
        due("count(2)", x.count(2), 60);
    }

    private static void promise9() {
        TidingsDesk x = desk("p1", "p1", "p1");
        due("alike", x.hand(1, 1, 1), false);
        due("word 3", x.hand(0, 1, 3), false);
        due("word -1", x.hand(0, 1, -1), false);
        due("no such one", x.hand(3, 1, 1), false);
        due("no such other", x.hand(1, 3, 1), false);
        due("no such one", x.hand(-1, 1, 1), false);
        due("no such other", x.hand(1, Integer.MIN_VALUE, 1), false);
        due("count(4)", x.count(4), 0);
        due("count(5)", x.count(5), 0);
        groupsDue(x, 0, 10, 0, 0, 0);
        due("APART", x.hand(2, 0, 2), true);
        groupsDue(x, 0, 20, 0, 0, 2);
        due("either way round", x.pair(0, 2, 0), 1000);
        due("TOGETHER", x.hand(1, 2, 1), true);
        groupsDue(x, 0, 20, 0, 1, 1);
        due("count(4)", x.count(4), 1);
        due("count(5)", x.count(5), 1);
        due("neither", x.hand(0, 2, 0), true);
        groupsDue(x, 0, 10, 0, 0, 0);
        due("count(5)", x.count(5), 0);
        due("TOGETHER to APART", x.hand(2, 1, 2), true);
        due("count(4)", x.count(4), 0);
        due("count(5)", x.count(5), 1);
        x.days(5);
        due("APART told later", x.hand(0, 1, 2), true);
        due("holds for earlier DAYS", x.pair(0, 1, 0), 1000);
        groupsDue(x, 0, 20, 0, 1, 0);
        report(x, "k1");
        due("TOGETHER with one not known", x.hand(0, 3, 1), true);
        correct(x, 0, "k2");
        due("harms no earlier DAY", x.cost(4), 20);
        due("but this one", x.cost(5), -10000);
    }

    private static void promise10() {
        TidingsDesk x = desk("p1", "p2");
        due("at first", x.cost(0), 16);
        due("opens(-1)", x.opens(-1), false);
        due("opens(101)", x.opens(101), false);
        due("opens(least)", x.opens(Integer.MIN_VALUE), false);
        due("as it was", x.cost(0), 16);
        due("opens(100)", x.opens(100), true);
        due("cost", x.cost(0), 106);
        due("opens(0)", x.opens(0), true);
        due("cost", x.cost(0), 0);
        due("groups", x.groups(0), 2);
        due("opens(6)", x.opens(6), true);
        groupsDue(x, 0, 12, 0, 0);
        due("opens(5)", x.opens(5), true);
        groupsDue(x, 0, 10, 0, 1);
    }

    private static void promise11() {
        TidingsDesk x = desk("p1", "d1");
        formsDue(x, 0, 5, 3);
        due("price(-1)", x.price(-1), false);
        due("price(51)", x.price(51), false);
        due("price(greatest)", x.price(Integer.MAX_VALUE), false);
        formsDue(x, 0, 5, 3);
        due("price(50)", x.price(50), true);
        due("forms", x.forms(0), 52);
        due("price(0)", x.price(0), true);
        formsDue(x, 0, 0, 1, 2);
        due("price(1)", x.price(1), true);
        formsDue(x, 0, 2, 1, 2);
        due("price(2)", x.price(2), true);
        formsDue(x, 0, 4, 3);
    }

    private static void promise12() {
        TidingsDesk x = new TidingsDesk();
        x.days(2);
        report(x, "p99 d999 n9-9999 wa,b,c k2");
        int[] want = {99, 999, 9, 3, 2};
        for (int f = 0; f < 5; f++) {
            int field = f;
            due("field " + f, x.field(0, f, 2), want[f]);
            due("not known", x.field(0, f, 1), -1);
            noneDue("report", n -> x.field(n, field, 2), -1, 1, 10);
            noneDue("q", n -> x.field(0, field, n), -1, 3, 0);
        }
        noneDue("field", n -> x.field(0, n, 2), -1, 5);
        report(x, "p0 d0 n0 k0");
        for (int f = 0; f < 5; f++) {
            due("field " + f, x.field(1, f, 2), f == 3 ? -1 : 0);
        }
        x.days(1);
        correct(x, 0, "p1");
        correct(x, 0, "p2");
        due("the latest of a DAY", x.field(0, 0, 3), 2);
        x.deny(0, 0);
        correct(x, 0, "d5");
        due("denied", x.field(0, 0, 3), -1);
        due("corrected", x.field(0, 1, 3), 5);
        due("as known before", x.field(0, 0, 2), 99);
        due("as known before", x.field(0, 1, 2), 999);
    }

    private static void promise13() {
        TidingsDesk x = desk("n5", "n5-8", "p1");
        due("of one number", x.upper(0, 0), 5);
        due("of a span", x.upper(1, 0), 8);
        due("without", x.upper(2, 0), -1);
        noneDue("report", n -> x.upper(n, 0), -1, 3);
        noneDue("q", n -> x.upper(1, n), -1, 1);
        x.days(1);
        correct(x, 1, "n7");
        x.deny(0, 2);
        due("corrected", x.upper(1, 1), 7);
        due("denied", x.upper(0, 1), -1);
        due("before", x.upper(1, 0), 8);
        due("before", x.upper(0, 0), 5);
    }

    private static void promise14() {
        String[] names = {"abcdef", "z", "yx"};
        TidingsDesk x = desk("wabcdef,z,yx", "p1");
        for (int i = 0; i < 3; i++) {
            int name = i;
            for (int j = 0; j < 8; j++) {
                due("letter " + j + " of " + i, x.letter(0, i, j, 0), j < names[i].length() ? names[i].charAt(j) : -1);
            }
            noneDue("letter", n -> x.letter(0, name, n, 0), -1, 6, 7);
        }
        noneDue("report", n -> x.letter(n, 0, 0, 0), -1, 1, 2);
        noneDue("name", n -> x.letter(0, n, 0, 0), -1, 3);
        noneDue("q", n -> x.letter(0, 0, 0, n), -1, 1);
        x.days(1);
        correct(x, 0, "wq");
        due("corrected", x.letter(0, 0, 0, 1), 'q');
        due("gone", x.letter(0, 1, 0, 1), -1);
        due("before", x.letter(0, 1, 0, 0), 'z');
    }

    private static void pairDue(String one, String other, int want) {
        TidingsDesk x = desk(one, other);
        due("pair of '" + one + "' and '" + other + "'", x.pair(0, 1, 0), want);
        due("pair of '" + other + "' and '" + one + "'", x.pair(1, 0, 0), want);
    }

    private static void promise15() {
        pairDue("p1", "p1", 0);
        pairDue("p1", "p2", 6);
        pairDue("p1", "d2", 0);
        pairDue("p0", "d0", 0);
        pairDue("d1", "d10", 9);
        pairDue("d1", "d11", 1000);
        pairDue("d0 k1", "d4", 4);
        pairDue("k1", "k2", 1000);
        pairDue("k1", "k1", 0);
        pairDue("k0", "p1", 0);
        pairDue("n1", "n2", 4);
        pairDue("n1-5", "n5-9", 0);
        pairDue("n1-5", "n6-9", 4);
        pairDue("n1-9", "n3-4", 0);
        pairDue("n0", "p1", 0);
        pairDue("wab", "wab", -6);
        pairDue("wab", "wba", 0);
        pairDue("wab,cd,e", "we,ab,cd", -18);
        pairDue("wa", "waa", 0);
        pairDue("p1 d1 n1 wa k1", "p2 d5 n2 wa k1", 6 + 4 + 4 - 6);
        TidingsDesk x = desk("wa,b", "wa,b", "wa,c");
        due("three have a name", x.pair(0, 1, 0), -4 - 6);
        due("three have a name", x.pair(0, 2, 0), -4);
        x.days(1);
        report(x, "wa");
        due("four", x.pair(0, 2, 1), -3);
        report(x, "wd,a");
        due("five", x.pair(0, 2, 1), 0);
        due("only those known count", x.pair(0, 2, 0), -4);
        x.deny(4, 3);
        due("four again", x.pair(0, 2, 1), -3);
        due("APART", x.hand(2, 0, 2), true);
        due("pair", x.pair(0, 2, 0), 1000);
        due("alike", x.pair(1, 1, 0), -1000);
        due("not known", x.pair(0, 3, 0), -1000);
        due("not known", x.pair(3, 0, 0), -1000);
        noneDue("one", n -> x.pair(n, 1, 1), -1000, 1, 5, 10);
        noneDue("other", n -> x.pair(1, n, 1), -1000, 1, 5, 10);
        noneDue("q", n -> x.pair(0, 1, n), -1000, 2);
    }

    private static void promise16() {
        TidingsDesk x = desk("p1", "p2", "p3", "p4");
        groupsDue(x, 0, 32, 0, 0, 2, 2);
        x.opens(5);
        groupsDue(x, 0, 20, 0, 1, 2, 3);
        x.opens(6);
        groupsDue(x, 0, 24, 0, 0, 2, 2);
        due("no such one", x.group(4, 0), -1);
        noneDue("report", n -> x.group(n, 0), -1, 4);
        noneDue("q", n -> x.group(0, n), -1, 1);
        // 2 with 0 and 3 with 1 costs as much as 2 with 1 and 3 with 0.
        TidingsDesk y = desk("wa,b", "wc,d", "wc,a", "wb,d");
        y.opens(0);
        y.hand(0, 1, 2);
        y.hand(2, 3, 2);
        groupsDue(y, 0, -12, 0, 1, 0, 1);
        TidingsDesk z = desk("k0", "k1", "p5");
        groupsDue(z, 0, 20, 0, 1, 0);
        z.hand(0, 2, 2);
        groupsDue(z, 0, 20, 0, 1, 1);
        z.days(1);
        report(z, "p5");
        due("not known", z.group(3, 0), -1);
        due("known", z.group(3, 1), 0);
        z.hand(0, 1, 1);
        due("none", z.group(0, 1), -1);
        // 0 with 3 and 2 with 4 costs as much as 0 with 4 and 1 with 2; they first differ in 2, not in who is with 0.
        TidingsDesk w = desk("d10", "d17", "d11", "d15", "d6");
        int[][] apart = {{0, 1}, {0, 2}, {1, 3}, {1, 4}, {2, 3}, {3, 4}};
        for (int[] two : apart) {
            w.hand(two[0], two[1], 2);
        }
        groupsDue(w, 0, 40, 0, 1, 1, 3, 0);
    }

    private static void promise17() {
        TidingsDesk x = desk("p1 d1", "p2 d4", "d200");
        due("cost", x.cost(0), 10 + 9 + 10);
        noneDue("q", n -> x.cost(n), -10000, 1);
        x.hand(0, 2, 1);
        due("none", x.cost(0), -10000);
        x.hand(0, 2, 0);
        x.hand(0, 1, 2);
        due("APART", x.cost(0), 30);
        TidingsDesk y = desk("wa,b,c", "wa,b,c");
        due("below 0", y.cost(0), -8);
        y.opens(0);
        due("further below 0", y.cost(0), -18);
        // TOGETHER goes on: 0 with 1, 1 with 2, though 0 and 2 are dear.
        TidingsDesk z = desk("p1", "d5", "p2 n1", "n2");
        z.opens(0);
        due("all alone", z.cost(0), 0);
        z.hand(0, 1, 1);
        z.hand(2, 1, 1);
        due("a chain", z.cost(0), 6);
        z.hand(0, 2, 2);
        due("a broken chain", z.cost(0), -10000);
        // A longer chain, 2 with 0 with 1 with 3, that must not fall to two pairs.
        TidingsDesk w = desk("p1", "p2", "n1", "n2");
        w.hand(0, 1, 1);
        w.hand(0, 2, 1);
        w.hand(1, 3, 1);
        w.opens(5);
        due("a longer chain", w.cost(0), 5 + 6 + 4);
        due("in one GROUP", w.groups(0), 1);
        // What is gained elsewhere makes up for no MUST NOT.
        TidingsDesk v = desk("wa,b,c", "wa,b,c", "k1", "k2");
        v.opens(0);
        v.hand(2, 3, 1);
        due("none, though names agree", v.cost(0), -10000);
        due("none, though names agree", v.group(0, 0), -1);
    }

    private static void promise18() {
        TidingsDesk x = desk("k0", "k1", "k2", "k0");
        due("groups", x.groups(0), 3);
        noneDue("q", x::groups, -1, 1);
        x.hand(0, 3, 2);
        due("groups", x.groups(0), 4);
        x.hand(0, 1, 1);
        due("none", x.groups(0), -1);
        TidingsDesk y = desk("p1", "p1", "p1", "p1", "p1", "p1", "p1", "p1", "p1", "p1");
        due("all in one", y.groups(0), 1);
        for (int i = 0; i < 10; i++) {
            y.days(1);
            correct(y, i, "d" + 10 * i);
        }
        due("each alone", y.groups(10), 10);
        due("one at first", y.groups(0), 1);
        due("some", y.groups(3), 3);
    }

    private static void happeningDue(TidingsDesk x, int report, int q, int... want) {
        for (int what = 0; what < want.length; what++) {
            due("happening(" + report + ", " + what + ", " + q + ")", x.happening(report, what, q), want[what]);
        }
    }

    private static void promise19() {
        TidingsDesk x = desk("p0 d5 n3-9 k1", "d5 n1-4", "p7 k2");
        happeningDue(x, 0, 0, 0, 5, 3, 4, 1, 2, 0);
        happeningDue(x, 1, 0, 0, 5, 3, 4, 1, 2, 0);
        happeningDue(x, 2, 0, 7, -1, -1, -1, 2, 1, 0);
        noneDue("what", n -> x.happening(0, n, 0), -1, 7);
        for (int what = 0; what < 7; what++) {
            int w = what;
            noneDue("report", n -> x.happening(n, w, 0), -1, 3);
            noneDue("q", n -> x.happening(0, w, n), -1, 1);
        }
        x.days(1);
        x.hand(0, 1, 1);
        x.hand(0, 2, 2);
        correct(x, 1, "p3 d6 n5-6");
        happeningDue(x, 1, 1, -2, -2, 5, 6, 1, 2, 0);
        correct(x, 1, "n10-11");
        happeningDue(x, 0, 1, -2, -2, -2, -2, 1, 2, 1);
        correct(x, 1, "n9");
        happeningDue(x, 0, 1, -2, -2, 9, 9, 1, 2, 0);
        x.deny(0, 0);
        x.deny(0, 1);
        x.deny(0, 2);
        x.deny(0, 4);
        happeningDue(x, 0, 1, 3, 6, 9, 9, -1, 2, 0);
        happeningDue(x, 2, 1, 7, -1, -1, -1, 2, 1, 0);
        // Three that have something in common two by two have it all together.
        TidingsDesk y = desk("n1-5", "n4-9", "n5-6", "d3");
        happeningDue(y, 3, 0, -1, 3, 5, 5, -1, 4, 0);
        correct(y, 2, "n6-7");
        happeningDue(y, 3, 0, -1, 3, -2, -2, -1, 4, 1);
        x.hand(1, 2, 1);
        happeningDue(x, 0, 1, -1, -1, -1, -1, -1, -1, -1);
    }

    private static void promise20() {
        TidingsDesk x = desk("p0 k0", "p0 k1", "p99 k2", "p0 k0");
        due("at(0)", x.at(0, 0), 2);
        due("at(99)", x.at(99, 0), 1);
        due("at(1)", x.at(1, 0), 0);
        noneDue("place", n -> n == 31 || n == 32 || n == 33 ? -1 : x.at(n, 0), -1, 100);
        noneDue("q", n -> x.at(0, n), -1, 1);
        x.days(1);
        correct(x, 3, "p5");
        due("doubtful", x.at(0, 1), 1);
        due("doubtful", x.at(5, 1), 0);
        due("before", x.at(0, 0), 2);
        x.deny(0, 0);
        due("no longer doubtful", x.at(5, 1), 1);
        x.hand(0, 1, 1);
        due("none", x.at(0, 0), -1);
    }

    private static void promise21() {
        String[] items = {"p1", "d1", "n1", "wa", "k1"};
        for (int shape = 1; shape < 32; shape++) {
            StringBuilder text = new StringBuilder();
            for (int f = 4; f >= 0; f--) {
                text.append((shape >> f & 1) == 1 ? items[f] + " " : "");
            }
            due("shape of " + text, desk(text.toString()).shape(0, 0), shape);
        }
        TidingsDesk x = desk("p1");
        noneDue("report", n -> x.shape(n, 0), 0, 1, 10);
        noneDue("q", n -> x.shape(0, n), 0, 1);
        x.days(1);
        correct(x, 0, "k1");
        due("more", x.shape(0, 1), 17);
        x.deny(0, 0);
        x.deny(0, 4);
        due("nothing", x.shape(0, 1), 0);
        due("before", x.shape(0, 0), 1);
    }

    private static void promise22() {
        TidingsDesk x = desk("p1 d1", "n1 wa", "k1");
        formsDue(x, 0, 9, 3, 28);
        x.price(0);
        formsDue(x, 0, 0, 3, 12, 16);
        noneDue("i", n -> x.form(n, 0), -1, 3);
        noneDue("q", n -> x.form(0, n), -1, 1);
        x.days(1);
        x.deny(0, 0);
        x.deny(0, 1);
        formsDue(x, 1, 1, 12, 16);
        formsDue(x, 0, 0, 3, 12, 16);
        TidingsDesk v = desk("p1", "d1 n1 wa", "p1 d1 n1 wa k1");
        v.price(0);
        formsDue(v, 0, 0, 1, 14, 31);
        // What one has besides costs 2, and what three lack 3.
        TidingsDesk u = desk("p1", "p1", "p1 d1", "p1");
        u.price(4);
        formsDue(u, 0, 4 + 2, 1);
        // What nobody has may yet be the best FORM.
        TidingsDesk y = desk("p1 d1", "d1 n1", "p1 n1");
        formsDue(y, 0, 6, 7);
        // More shapes than FORMS may be.
        TidingsDesk z = desk("p1", "d1", "n1", "k1");
        z.price(0);
        formsDue(z, 0, 2, 1, 2, 20);
        TidingsDesk w = new TidingsDesk();
        w.days(1);
        report(w, "p1");
        formsDue(w, 0, 0);
        formsDue(w, 1, 3, 1);
    }

    private static void promise23() {
        TidingsDesk x = desk("p1");
        due("one", x.forms(0), 3);
        noneDue("q", x::forms, -1, 1);
        x.days(1);
        x.deny(0, 0);
        due("nothing has a FORM too", x.forms(1), 4);
        due("before", x.forms(0), 3);
        report(x, "p1 d1 n1 wa k1");
        due("two", x.forms(1), 7);
        x.price(50);
        due("two by one FORM", x.forms(1), 55);
    }

    private static void promise24() {
        TidingsDesk x = desk("p1", "p1", "p1");
        x.days(7);
        correct(x, 1, "d1");
        x.deny(1, 1);
        feed(x, "p1 d2");
        x.hand(0, 1, 1);
        x.hand(1, 0, 1);
        x.hand(1, 2, 1);
        x.hand(0, 2, 2);
        int[] want = {7, 3, 2, 5, 2, 1};
        for (int what = 0; what < 6; what++) {
            due("count(" + what + ")", x.count(what), want[what]);
        }
        noneDue("what", x::count, -1, 6);
    }

    public static void main(String[] args) {
        Runnable[] promises = {PromisesTest::promise1, PromisesTest::promise2, PromisesTest::promise3,
            PromisesTest::promise4, PromisesTest::promise5, PromisesTest::promise6, PromisesTest::promise7,
            PromisesTest::promise8, PromisesTest::promise9, PromisesTest::promise10, PromisesTest::promise11,
            PromisesTest::promise12, PromisesTest::promise13, PromisesTest::promise14, PromisesTest::promise15,
            PromisesTest::promise16, PromisesTest::promise17, PromisesTest::promise18, PromisesTest::promise19,
            PromisesTest::promise20, PromisesTest::promise21, PromisesTest::promise22, PromisesTest::promise23,
            PromisesTest::promise24};
        for (int i = 0; i < promises.length; i++) {
            part = "promise " + (i + 1);
            promises[i].run();
        }
        System.out.println(wrong == 0 ? "all answers are as due" : wrong + " answers are not as due");
        if (wrong != 0) {
            System.exit(1);
        }
    }
}
