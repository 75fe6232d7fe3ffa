import java.util.ArrayList;
import java.util.Arrays;
import java.util.HashMap;
import java.util.HashSet;
import java.util.List;
import java.util.Map;
import java.util.Random;
import java.util.Set;
import java.util.regex.Matcher;
import java.util.regex.Pattern;

/** Random runs (of fixed seeds) against a plain model that tries every grouping and every choice of forms. */
public final class ModelTest {
    private static final int RUNS = 250;
    // An object is good for 512 calls; one round of changes and questions takes fewer than 50.
    private static final int CALLS = 512 - 60;

    /** What one text, correction or denial says: a field's letter to its words, or to null if it is denied. */
    private record Told(int report, int day, Map<Character, String> says) { }

    /** The document's words, put down as plainly as can be. */
    private static final class Model {
        static final String FIELDS = "pdnwk";
        static final Pattern ITEM = Pattern.compile("([pdk])(\\d{1,4})(?!\\d)|(n)(\\d{1,4})(?!\\d)(?:-(\\d{1,4})(?!\\d))?"
            + "|(w)([a-z]{1,6}(?![a-z])(?:,[a-z]{1,6}(?![a-z])){0,2})");
        int now = 0;
        int open = 10;
        int price = 3;
        int reports = 0;
        int changes = 0;
        String tape = "";
        final List<Told> told = new ArrayList<>();
        final Map<Integer, Integer> hands = new HashMap<>();
        final Map<Integer, int[]> groupings = new HashMap<>();
        final Map<Integer, int[]> found = new HashMap<>();

        void changed() {
            groupings.clear();
            found.clear();
        }

        int days(int n) {
            return n < 0 || n > 1000 || now + n > 1000 ? -1 : (now += n);
        }

        int feed(int... five) {
            StringBuilder more = new StringBuilder(tape);
            for (int n : five) {
                for (int shift = 24; shift >= 0; shift -= 8) {
                    int b = n >> shift & 255;
                    if (b != 0) {
                        more.append((char) b);
                    }
                }
            }
            if (more.length() > 100) {
                return -1;
            }
            tape = more.toString();
            return tape.length();
        }

        boolean end(int n) {
            if (n < 0 || n > tape.length()) {
                return false;
            }
            tape = tape.substring(0, n);
            return true;
        }

        int parse(Map<Character, String> says) {
            int i = 0;
            while (true) {
                while (i < tape.length() && tape.charAt(i) == ' ') {
                    i++;
                }
                if (i == tape.length()) {
                    return says.isEmpty() ? i : -1;
                }
                Matcher m = ITEM.matcher(tape);
                m.region(i, tape.length());
                if (!m.lookingAt() || !right(m, says) || goesOn(m)) {
                    return i;
                }
                says.put(tape.charAt(i), m.group().substring(1));
                i = m.end();
                if (i < tape.length() && tape.charAt(i) != ' ') {
                    return i;
                }
            }
        }

        // A dash behind a number of n, or a comma behind a name, belongs to the item whether it is right or not.
        boolean goesOn(Matcher m) {
            if (m.end() == tape.length()) {
                return false;
            }
            char next = tape.charAt(m.end());
            return m.group(3) != null && m.group(5) == null && next == '-' || m.group(6) != null && next == ',';
        }

        boolean right(Matcher m, Map<Character, String> says) {
            char mark = m.group().charAt(0);
            if (says.containsKey(mark)) {
                return false;
            }
            if (mark == 'w') {
                String[] names = m.group(7).split(",");
                return new HashSet<>(Arrays.asList(names)).size() == names.length;
            }
            if (mark == 'n') {
                return m.group(5) == null || Integer.parseInt(m.group(5)) >= Integer.parseInt(m.group(4));
            }
            return Integer.parseInt(m.group(2)) <= (mark == 'p' ? 99 : mark == 'd' ? 999 : 2);
        }

        int fault() {
            return parse(new HashMap<>());
        }

        int report() {
            Map<Character, String> says = new HashMap<>();
            if (reports == 10 || parse(says) != -1) {
                return -1;
            }
            told.add(new Told(reports, now, says));
            tape = "";
            changed();
            return reports++;
        }

        boolean correct(int report) {
            Map<Character, String> says = new HashMap<>();
            if (report < 0 || report >= reports || changes == 60 || parse(says) != -1) {
                return false;
            }
            told.add(new Told(report, now, says));
            tape = "";
            changes++;
            changed();
            return true;
        }

        boolean deny(int report, int field) {
            if (report < 0 || report >= reports || changes == 60 || field < 0 || field > 4) {
                return false;
            }
            Map<Character, String> says = new HashMap<>();
            says.put(FIELDS.charAt(field), null);
            told.add(new Told(report, now, says));
            changes++;
            changed();
            return true;
        }

        boolean hand(int one, int other, int word) {
            if (one < 0 || other < 0 || one >= reports || other >= reports || one == other || word < 0 || word > 2) {
                return false;
            }
            hands.put(Math.min(one, other) * 10 + Math.max(one, other), word);
            changed();
            return true;
        }

        int word(int one, int other) {
            return hands.getOrDefault(Math.min(one, other) * 10 + Math.max(one, other), 0);
        }

        boolean opens(int cost) {
            if (cost < 0 || cost > 100) {
                return false;
            }
            open = cost;
            changed();
            return true;
        }

        boolean price(int cost) {
            if (cost < 0 || cost > 50) {
                return false;
            }
            price = cost;
            changed();
            return true;
        }

        boolean known(int report, int q) {
            if (q < 0 || q > now) {
                return false;
            }
            return told.stream().anyMatch(t -> t.report() == report && t.day() <= q);
        }

        int knownMany(int q) {
            int many = 0;
            while (known(many, q)) {
                many++;
            }
            return many;
        }

        String words(int report, char mark, int q) {
            for (int i = told.size() - 1; i >= 0; i--) {
                Told t = told.get(i);
                if (t.report() == report && t.day() <= q && t.says().containsKey(mark)) {
                    return t.says().get(mark);
                }
            }
            return null;
        }

        int field(int report, int field, int q) {
            String words = field < 0 || field > 4 || !known(report, q) ? null : words(report, FIELDS.charAt(field), q);
            if (words == null) {
                return -1;
            }
            return field == 3 ? words.split(",").length : Integer.parseInt(words.split("-")[0]);
        }

        int upper(int report, int q) {
            String words = known(report, q) ? words(report, 'n', q) : null;
            return words == null ? -1 : Integer.parseInt(words.substring(words.indexOf('-') + 1));
        }

        List<String> names(int report, int q) {
            String words = known(report, q) ? words(report, 'w', q) : null;
            return words == null ? List.of() : Arrays.asList(words.split(","));
        }

        int letter(int report, int i, int j, int q) {
            List<String> names = names(report, q);
            return i < 0 || i >= names.size() || j < 0 || j >= names.get(i).length() ? -1 : names.get(i).charAt(j);
        }

        int pair(int a, int b, int q) {
            if (a == b || !known(a, q) || !known(b, q)) {
                return -1000;
            }
            int cost = 0;
            int[] fa = new int[5];
            int[] fb = new int[5];
            for (int f = 0; f < 5; f++) {
                fa[f] = field(a, f, q);
                fb[f] = field(b, f, q);
            }
            if (word(a, b) == 2 || fa[4] != -1 && fb[4] != -1 && fa[4] != fb[4]) {
                return 1000;
            }
            if (fa[1] != -1 && fb[1] != -1) {
                cost += Math.abs(fa[1] - fb[1]);
                if (cost > 9) {
                    return 1000;
                }
            }
            cost += fa[0] != -1 && fb[0] != -1 && fa[0] != fb[0] ? 6 : 0;
            if (fa[2] != -1 && fb[2] != -1) {
                cost += Math.max(fa[2], fb[2]) > Math.min(upper(a, q), upper(b, q)) ? 4 : 0;
            }
            Set<String> both = new HashSet<>(names(a, q));
            both.retainAll(names(b, q));
            for (String name : both) {
                int have = 0;
                for (int r = 0; r < 10; r++) {
                    have += names(r, q).contains(name) ? 1 : 0;
                }
                cost -= have > 4 ? 0 : 12 / have;
            }
            return cost;
        }

        int[] bestGroups;
        int bestCost;

        /** The number of each report's group, or null if there is no grouping; behind them the cost. */
        int[] grouping(int q) {
            if (q < 0 || q > now) {
                return null;
            }
            if (!groupings.containsKey(q)) {
                int n = knownMany(q);
                int[][] pairs = new int[n][n];
                for (int a = 0; a < n; a++) {
                    for (int b = 0; b < n; b++) {
                        pairs[a][b] = pair(a, b, q);
                    }
                }
                bestGroups = null;
                bestCost = Integer.MAX_VALUE;
                tryAll(new int[n], 0, 0, 0, pairs);
                int[] kept = bestGroups == null ? null : Arrays.copyOf(bestGroups, n + 1);
                if (kept != null) {
                    kept[n] = bestCost;
                }
                groupings.put(q, kept);
            }
            return groupings.get(q);
        }

        void tryAll(int[] groups, int at, int used, int cost, int[][] pairs) {
            if (at == groups.length) {
                if (cost < bestCost) {
                    bestCost = cost;
                    bestGroups = groups.clone();
                }
                return;
            }
            for (int g = 0; g <= used; g++) {
                int more = g == used ? open : 0;
                boolean may = true;
                for (int r = 0; r < at; r++) {
                    if (groups[r] == g) {
                        may &= pairs[r][at] != 1000;
                        more += pairs[r][at];
                    } else {
                        may &= word(r, at) != 1;
                    }
                }
                if (may) {
                    groups[at] = g;
                    tryAll(groups, at + 1, Math.max(used, g + 1), cost + more, pairs);
                }
            }
        }

        int group(int report, int q) {
            int[] groups = grouping(q);
            if (groups == null || report < 0 || report >= groups.length - 1) {
                return -1;
            }
            int first = 0;
            while (groups[first] != groups[report]) {
                first++;
            }
            return first;
        }

        int cost(int q) {
            int[] groups = grouping(q);
            return groups == null ? -10000 : groups[groups.length - 1];
        }

        int groups(int q) {
            int[] groups = grouping(q);
            return groups == null ? -1 : (int) Arrays.stream(groups, 0, groups.length - 1).distinct().count();
        }

        List<Integer> members(int first, int q) {
            List<Integer> members = new ArrayList<>();
            for (int r = 0; r < 10; r++) {
                if (group(r, q) == first) {
                    members.add(r);
                }
            }
            return members;
        }

        int alike(List<Integer> members, int field, int q) {
            Set<Integer> values = new HashSet<>();
            for (int r : members) {
                values.add(field(r, field, q));
            }
            values.remove(-1);
            return values.isEmpty() ? -1 : values.size() > 1 ? -2 : values.iterator().next();
        }

        int happening(int report, int what, int q) {
            int first = group(report, q);
            if (first == -1 || what < 0 || what > 6) {
                return -1;
            }
            List<Integer> members = members(first, q);
            if (what == 0 || what == 1 || what == 4) {
                return alike(members, what, q);
            }
            if (what == 5) {
                return members.size();
            }
            int low = members.stream().filter(r -> field(r, 2, q) != -1).mapToInt(r -> field(r, 2, q)).max().orElse(-1);
            int high = members.stream().filter(r -> field(r, 2, q) != -1).mapToInt(r -> upper(r, q)).min().orElse(-1);
            return what == 6 ? (low > high ? 1 : 0) : low > high ? -2 : what == 2 ? low : high;
        }

        int at(int place, int q) {
            if (place < 0 || place > 99 || grouping(q) == null) {
                return -1;
            }
            int many = 0;
            for (int r = 0; r < 10; r++) {
                many += group(r, q) == r && alike(members(r, q), 0, q) == place ? 1 : 0;
            }
            return many;
        }

        int shape(int report, int q) {
            int shape = 0;
            for (int f = 0; f < 5; f++) {
                shape |= field(report, f, q) == -1 ? 0 : 1 << f;
            }
            return shape;
        }

        /** The forms found, and behind them what they cost. */
        int[] search(int q) {
            if (q < 0 || q > now) {
                return null;
            }
            if (!found.containsKey(q)) {
                found.put(q, searchAnew(q));
            }
            return found.get(q);
        }

        int[] searchAnew(int q) {
            int n = knownMany(q);
            int[] best = {0};
            if (n == 0) {
                return best;
            }
            int[] shapes = new int[n];
            for (int r = 0; r < n; r++) {
                shapes[r] = shape(r, q);
            }
            best = null;
            // From many to few and from high to low, so that what is no dearer takes the place of what was there.
            for (int many = 3; many >= 1; many--) {
                for (int a = 31; a >= 1; a--) {
                    for (int b = many > 1 ? 31 : a; b >= (many > 1 ? a + 1 : a); b--) {
                        for (int c = many > 2 ? 31 : b; c >= (many > 2 ? b + 1 : b); c--) {
                            int cost = many * price + costOf(a, b, c, shapes);
                            if (best == null || cost <= best[best.length - 1]) {
                                best = many == 1 ? new int[] {a, cost} : many == 2 ? new int[] {a, b, cost}
                                    : new int[] {a, b, c, cost};
                            }
                        }
                    }
                }
            }
            return best;
        }

        static int costOf(int a, int b, int c, int[] shapes) {
            int cost = 0;
            for (int shape : shapes) {
                int least = 1000;
                for (int form : new int[] {a, b, c}) {
                    least = Math.min(least, Integer.bitCount(form & ~shape) + 2 * Integer.bitCount(shape & ~form));
                }
                cost += least;
            }
            return cost;
        }

        int form(int i, int q) {
            int[] forms = search(q);
            return forms == null || i < 0 || i >= forms.length - 1 ? -1 : forms[i];
        }

        int forms(int q) {
            int[] forms = search(q);
            return forms == null ? -1 : forms[forms.length - 1];
        }

        int count(int what) {
            return switch (what) {
                case 0 -> now;
                case 1 -> reports;
                case 2 -> changes;
                case 3 -> tape.length();
                case 4 -> (int) hands.values().stream().filter(w -> w == 1).count();
                case 5 -> (int) hands.values().stream().filter(w -> w == 2).count();
                default -> -1;
            };
        }
    }

    private static int wrong = 0;
    private final Random random;
    private final TidingsDesk desk = new TidingsDesk();
    private final Model model = new Model();
    private final int run;
    private final int dates;
    private final int handsOf;
    private int calls = 0;

    private ModelTest(int run) {
        this.run = run;
        random = new Random(run);
        dates = 3 + random.nextInt(25);
        handsOf = random.nextInt(4);
    }

    private void due(String call, int got, int want) {
        calls++;
        if (got != want) {
            wrong++;
            System.out.println("run " + run + ": " + call + " answered " + got + ", due is " + want);
        }
    }

    private int some(int bound) {
        int n = random.nextInt(40);
        int any = n == 2 && random.nextInt(4) == 0 ? random.nextInt() : random.nextInt(bound);
        return n == 0 ? -1 : n == 1 ? bound : any;
    }

    private String number(int bound) {
        int n = random.nextInt(bound);
        return random.nextInt(60) == 0 ? "" + n * 1000 : random.nextInt(30) == 0 ? "0" + n : "" + n;
    }

    private String name() {
        String[] names = {"ann", "bob", "cy", "dora", "eva", "f", "george", "an", "nna"};
        return random.nextInt(80) == 0 ? "toolong" : names[random.nextInt(names.length)];
    }

    private String item(int field) {
        switch (field) {
            case 0:
                return "p" + number(4);
            case 1:
                return "d" + number(dates);
            case 2:
                return "n" + number(10) + (random.nextInt(3) == 0 ? "-" + (5 + random.nextInt(9)) : "");
            case 3:
                StringBuilder names = new StringBuilder("w" + name());
                for (int i = random.nextInt(3); i > 0; i--) {
                    names.append(',').append(name());
                }
                return names.toString();
            default:
                return "k" + (random.nextInt(4) == 0 ? number(3) : "1");
        }
    }

    private String text() {
        StringBuilder text = new StringBuilder();
        int shape = random.nextInt(31) + 1;
        int turn = random.nextInt(5);
        for (int i = 0; i < 5; i++) {
            int field = (i + turn) % 5;
            if ((shape >> field & 1) == 1) {
                text.append(text.length() == 0 ? "" : " ").append(item(field));
            }
        }
        if (random.nextInt(8) == 0) {
            int at = random.nextInt(text.length() + 1);
            text.insert(at, "pdnwk  ,-0189az\u00e9Q".charAt(random.nextInt(17)));
        }
        return text.toString();
    }

    private void feed(int[] five) {
        int got = desk.feed(five[0], five[1], five[2], five[3], five[4]);
        due("feed(" + Arrays.toString(five) + ")", got, model.feed(five));
    }

    private void feed(String text) {
        for (int from = 0; from < text.length(); from += 20) {
            int[] five = new int[5];
            for (int i = 0; i < 20 && from + i < text.length(); i++) {
                five[i / 4] |= text.charAt(from + i) << 8 * (3 - i % 4);
            }
            feed(five);
        }
    }

    private void tell() {
        if (model.fault() != -1 && random.nextInt(3) > 0) {
            int n = some(101);
            n = random.nextInt(3) == 0 ? n : 0;
            due("end(" + n + ")", desk.end(n) ? 1 : 0, model.end(n) ? 1 : 0);
        }
        if (random.nextInt(60) == 0) {
            feed(new int[] {random.nextInt(), 0, random.nextInt(256), random.nextInt(256) << 16, 0x30});
        }
        feed(text());
        due("fault() of '" + model.tape + "'", desk.fault(), model.fault());
        if (random.nextInt(4) > 0 && model.reports < 10) {
            due("report()", desk.report(), model.report());
        } else {
            int r = some(10);
            due("correct(" + r + ")", desk.correct(r) ? 1 : 0, model.correct(r) ? 1 : 0);
        }
    }

    private void change() {
        int a = some(10);
        int b = some(10);
        int n = some(5);
        switch (random.nextInt(10)) {
            case 0, 1, 2, 3, 4:
                tell();
                break;
            case 5:
                due("deny(" + a + ", " + n + ")", desk.deny(a, n) ? 1 : 0, model.deny(a, n) ? 1 : 0);
                break;
            case 6:
                if (handsOf > 0) {
                    int word = random.nextInt(3) == 0 ? some(3) : handsOf == 1 ? 2 : 1;
                    due("hand(" + a + ", " + b + ", " + word + ")", desk.hand(a, b, word) ? 1 : 0,
                        model.hand(a, b, word) ? 1 : 0);
                }
                break;
            case 7:
                int open = random.nextBoolean() ? some(101) : random.nextInt(20);
                due("opens(" + open + ")", desk.opens(open) ? 1 : 0, model.opens(open) ? 1 : 0);
                break;
            case 8:
                int price = random.nextBoolean() ? some(51) : random.nextInt(5);
                due("price(" + price + ")", desk.price(price) ? 1 : 0, model.price(price) ? 1 : 0);
                break;
            default:
                int days = random.nextInt(50) == 0 ? some(1001) : random.nextInt(3);
                due("days(" + days + ")", desk.days(days), model.days(days));
        }
    }

    private void ask() {
        int q = random.nextInt(4) == 0 ? some(model.now + 1) : model.now;
        int a = some(10);
        int b = some(10);
        int f = some(5);
        int i = some(3);
        int j = some(6);
        int what = some(7);
        int place = random.nextInt(9) == 0 ? some(100) : random.nextInt(4);
        due("field(" + a + ", " + f + ", " + q + ")", desk.field(a, f, q), model.field(a, f, q));
        due("upper(" + a + ", " + q + ")", desk.upper(a, q), model.upper(a, q));
        due("letter(" + a + ", " + i + ", " + j + ", " + q + ")", desk.letter(a, i, j, q), model.letter(a, i, j, q));
        due("pair(" + a + ", " + b + ", " + q + ")", desk.pair(a, b, q), model.pair(a, b, q));
        due("group(" + a + ", " + q + ")", desk.group(a, q), model.group(a, q));
        due("group(" + b + ", " + q + ")", desk.group(b, q), model.group(b, q));
        due("cost(" + q + ")", desk.cost(q), model.cost(q));
        due("groups(" + q + ")", desk.groups(q), model.groups(q));
        due("happening(" + a + ", " + what + ", " + q + ")", desk.happening(a, what, q), model.happening(a, what, q));
        due("at(" + place + ", " + q + ")", desk.at(place, q), model.at(place, q));
        due("shape(" + a + ", " + q + ")", desk.shape(a, q), model.shape(a, q));
        due("form(" + i + ", " + q + ")", desk.form(i, q), model.form(i, q));
        due("forms(" + q + ")", desk.forms(q), model.forms(q));
        due("count(" + what + ")", desk.count(what), model.count(what));
    }

    private void go() {
        for (int round = 0; round < CALLS && calls < CALLS; round++) {
            for (int i = random.nextInt(3); i >= 0; i--) {
                change();
            }
            ask();
        }
        for (int r = 0; r < 10; r++) {
            due("group(" + r + ") at last", desk.group(r, model.now), model.group(r, model.now));
        }
    }

    public static void main(String[] args) {
        for (int run = 0; run < RUNS && wrong < 40; run++) {
            new ModelTest(run).go();
        }
        System.out.println(wrong == 0 ? "all answers are as due" : wrong + " answers are not as due");
        if (wrong != 0) {
            System.exit(1);
        }
    }
}
