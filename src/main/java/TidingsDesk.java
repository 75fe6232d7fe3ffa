/** A house of forms for happenings. ../shared/DOC.md tells what each public method promises. */
public final class TidingsDesk {
    public static final int NONE = -1;

    private static final int PLACE = 0;
    private static final int DATE = 1;
    private static final int NUMBER = 2;
    private static final int NAMES = 3;
    private static final int KIND = 4;
    private static final int FIELDS = 5;
    private static final int ALL_FIELDS = 31;

    private static final int MAX_DAY = 1000;
    private static final int MAX_PLACE = 99;
    private static final int MAX_OPEN = 100;
    private static final int MAX_PRICE = 50;
    private static final int MAX_TAPE = 100;
    private static final int MAX_REPORTS = 10;
    private static final int MAX_CHANGES = 60;
    private static final int MAX_NAMES = 3;
    private static final int MAX_LETTERS = 6;
    private static final int MAX_DIGITS = 4;
    private static final int MAX_FORMS = 3;

    private static final int FIRST_OPEN = 10;
    private static final int FIRST_PRICE = 3;

    private static final int NEITHER = 0;
    private static final int TOGETHER = 1;
    private static final int APART = 2;

    private static final int MUST_NOT = 1000;
    private static final int NO_PAIR = -1000;
    private static final int NO_COST = -10000;
    private static final int DOUBTFUL = -2;

    private static final int LETTER_BITS = 5;
    private static final int LETTER_MASK = 31;
    private static final int BEFORE_A = 96;

    private final Tape tape;
    private final Ledger ledger;
    private final Known known;
    private final Hands hands;
    private final Pairs pairs;
    private final Grouping grouping;
    private final FormSearch search;
    private int now;
    private int openCost;
    private int formPrice;

    // What was worked out last is kept until a call changes something that it rests on.
    private int shownDay;
    private boolean grouped;
    private boolean searched;

    public TidingsDesk() {
        tape = new Tape();
        ledger = new Ledger();
        known = new Known();
        hands = new Hands();
        pairs = new Pairs();
        grouping = new Grouping();
        search = new FormSearch();
        now = 0;
        openCost = FIRST_OPEN;
        formPrice = FIRST_PRICE;
        shownDay = NONE;
        grouped = false;
        searched = false;
    }

    public int days(int n) {
        if (n < 0 || n > MAX_DAY || now + n > MAX_DAY) {
            return NONE;
        }
        now += n;
        return now;
    }

    public int feed(int a, int b, int c, int d, int e) {
        int more = Tape.bytesIn(a) + Tape.bytesIn(b) + Tape.bytesIn(c) + Tape.bytesIn(d) + Tape.bytesIn(e);
        if (tape.size() + more > MAX_TAPE) {
            return NONE;
        }
        tape.append(a);
        tape.append(b);
        tape.append(c);
        tape.append(d);
        tape.append(e);
        return tape.size();
    }

    public boolean end(int n) {
        return tape.cut(n);
    }

    public int fault() {
        return tape.read();
    }

    public int report() {
        if (ledger.reports() >= MAX_REPORTS || tape.read() != NONE) {
            return NONE;
        }
        int number = ledger.addReport(now, tape.draft);
        tape.cut(0);
        shownDay = NONE;
        return number;
    }

    public boolean correct(int report) {
        if (!ledger.takesChange(report) || tape.read() != NONE) {
            return false;
        }
        ledger.addCorrection(report, now, tape.draft);
        tape.cut(0);
        shownDay = NONE;
        return true;
    }

    public boolean deny(int report, int field) {
        if (!ledger.takesChange(report) || field < 0 || field >= FIELDS) {
            return false;
        }
        ledger.addDenial(report, now, field);
        shownDay = NONE;
        return true;
    }

    public boolean hand(int one, int other, int word) {
        if (!ledger.hasReport(one) || !ledger.hasReport(other) || one == other) {
            return false;
        }
        if (word < NEITHER || word > APART) {
            return false;
        }
        hands.tell(one, other, word);
        grouped = false;
        return true;
    }

    public boolean opens(int cost) {
        if (cost < 0 || cost > MAX_OPEN) {
            return false;
        }
        openCost = cost;
        grouped = false;
        return true;
    }

    public boolean price(int cost) {
        if (cost < 0 || cost > MAX_PRICE) {
            return false;
        }
        formPrice = cost;
        searched = false;
        return true;
    }

    public int field(int report, int field, int q) {
        return look(q) ? known.valueOf(report, field) : NONE;
    }

    public int upper(int report, int q) {
        return look(q) ? known.highOf(report) : NONE;
    }

    public int letter(int report, int i, int j, int q) {
        Facts facts = look(q) ? known.factsOf(report) : null;
        return facts == null ? NONE : facts.letterOf(i, j);
    }

    public int pair(int one, int other, int q) {
        return look(q) && one != other ? Pairs.between(known, hands, one, other) : NO_PAIR;
    }

    public int group(int report, int q) {
        return lookGrouped(q) ? grouping.firstOf(report) : NONE;
    }

    public int cost(int q) {
        return lookGrouped(q) ? grouping.total() : NO_COST;
    }

    public int groups(int q) {
        return lookGrouped(q) ? grouping.size() : NONE;
    }

    public int happening(int report, int what, int q) {
        int first = lookGrouped(q) ? grouping.firstOf(report) : NONE;
        if (first == NONE) {
            return NONE;
        }
        switch (what) {
            case 0:
                return agreed(first, PLACE);
            case 1:
                return agreed(first, DATE);
            case 2:
                return quarrels(first) ? DOUBTFUL : lowEnd(first);
            case 3:
                return quarrels(first) ? DOUBTFUL : highEnd(first);
            case 4:
                return agreed(first, KIND);
            case 5:
                return grouping.membersOf(first);
            case 6:
                return quarrels(first) ? 1 : 0;
            default:
                return NONE;
        }
    }

    public int at(int place, int q) {
        if (place < 0 || place > MAX_PLACE || !lookGrouped(q)) {
            return NONE;
        }
        int there = 0;
        for (int r = 0; r < known.size(); r++) {
            if (grouping.firstOf(r) == r && agreed(r, PLACE) == place) {
                there++;
            }
        }
        return there;
    }

    public int shape(int report, int q) {
        return look(q) ? known.shapeOf(report) : 0;
    }

    public int form(int i, int q) {
        return lookSearched(q) ? search.formAt(i) : NONE;
    }

    public int forms(int q) {
        return lookSearched(q) ? search.total() : NONE;
    }

    public int count(int what) {
        switch (what) {
            case 0:
                return now;
            case 1:
                return ledger.reports();
            case 2:
                return ledger.changes();
            case 3:
                return tape.size();
            case 4:
                return hands.pairsTold(TOGETHER);
            case 5:
                return hands.pairsTold(APART);
            default:
                return NONE;
        }
    }

    /** Shows the reports as known in q; false if there is no such q. */
    private boolean look(int q) {
        if (q < 0 || q > now) {
            return false;
        }
        if (q != shownDay) {
            ledger.retell(q, known);
            shownDay = q;
            grouped = false;
            searched = false;
        }
        return true;
    }

    /** Shows the least grouping as known in q; false if there is none, or no such q. */
    private boolean lookGrouped(int q) {
        if (!look(q)) {
            return false;
        }
        if (!grouped) {
            pairs.reckon(known, hands);
            grouping.find(pairs, known.size(), openCost);
            grouped = true;
        }
        return grouping.exists();
    }

    /** Shows the forms found as known in q; false if there is no such q. */
    private boolean lookSearched(int q) {
        if (!look(q)) {
            return false;
        }
        if (!searched) {
            search.find(known, formPrice);
            searched = true;
        }
        return true;
    }

    private int agreed(int first, int field) {
        int found = NONE;
        for (int r = first; r < known.size(); r++) {
            int value = grouping.firstOf(r) == first ? known.valueOf(r, field) : NONE;
            if (value != NONE && found != NONE && value != found) {
                return DOUBTFUL;
            }
            if (value != NONE) {
                found = value;
            }
        }
        return found;
    }

    private int lowEnd(int first) {
        int low = NONE;
        for (int r = first; r < known.size(); r++) {
            if (grouping.firstOf(r) == first) {
                low = Math.max(low, known.valueOf(r, NUMBER));
            }
        }
        return low;
    }

    private int highEnd(int first) {
        int high = NONE;
        for (int r = first; r < known.size(); r++) {
            int end = grouping.firstOf(r) == first ? known.highOf(r) : NONE;
            if (end != NONE && (high == NONE || end < high)) {
                high = end;
            }
        }
        return high;
    }

    // Without any number both ends are NONE, and NONE is not behind itself.
    private boolean quarrels(int first) {
        return lowEnd(first) > highEnd(first);
    }

    /** The fields that a text tells, or those of a report as known; without names their number is held as 0. */
    private static final class Facts {
        private int has;
        private int high;
        private final int[] values;
        private final int[] names;

        Facts() {
            has = 0;
            high = 0;
            values = new int[FIELDS];
            names = new int[MAX_NAMES];
        }

        void forget() {
            has = 0;
            values[NAMES] = 0;
        }

        int fieldBits() {
            return has;
        }

        boolean hasField(int field) {
            return field >= 0 && field < FIELDS && (has >> field & 1) == 1;
        }

        int valueOf(int field) {
            return hasField(field) ? values[field] : NONE;
        }

        int highOf() {
            return hasField(NUMBER) ? high : NONE;
        }

        int nameAt(int i) {
            return i >= 0 && i < MAX_NAMES && i < values[NAMES] ? names[i] : NONE;
        }

        int letterOf(int i, int j) {
            int name = nameAt(i);
            if (name == NONE || j < 0 || j >= MAX_LETTERS) {
                return NONE;
            }
            int letter = name >> LETTER_BITS * j & LETTER_MASK;
            return letter == 0 ? NONE : BEFORE_A + letter;
        }

        boolean hasName(int name) {
            for (int i = 0; i < MAX_NAMES && i < values[NAMES]; i++) {
                if (names[i] == name) {
                    return true;
                }
            }
            return false;
        }

        void setValue(int field, int value) {
            if (field >= 0 && field < FIELDS) {
                values[field] = value;
                has |= 1 << field;
            }
        }

        void setSpan(int low, int top) {
            setValue(NUMBER, low);
            high = top;
        }

        void addName(int name) {
            int i = values[NAMES];
            if (i >= 0 && i < MAX_NAMES) {
                names[i] = name;
                setValue(NAMES, i + 1);
            }
        }

        /** Takes the fields in the bits from another, and loses those of them that the other lacks. */
        void take(Facts told, int bits) {
            has = has & ~bits | told.has & bits;
            for (int field = 0; field < FIELDS; field++) {
                if ((bits >> field & 1) == 1) {
                    values[field] = told.values[field];
                }
            }
            if ((bits >> NUMBER & 1) == 1) {
                high = told.high;
            }
            if ((bits >> NAMES & 1) == 1) {
                System.arraycopy(told.names, 0, names, 0, MAX_NAMES);
            }
        }
    }

    /** The bytes that have come, and the facts that they tell if they are a text. */
    private static final class Tape {
        private static final int BLANK = 32;
        private static final int COMMA = 44;
        private static final int DASH = 45;
        // No byte of 0 comes to the tape, so 0 can stand for what is behind its last.
        private static final int BEHIND = 0;
        private static final int BYTES_A_NUMBER = 4;
        private static final char[] MARKS = {'p', 'd', 'n', 'w', 'k'};
        private static final int[] HIGHEST = {99, 999, 9999, 0, 2};

        private final int[] bytes;
        private int length;
        private int next;
        private final Facts draft;

        Tape() {
            bytes = new int[MAX_TAPE];
            length = 0;
            next = 0;
            draft = new Facts();
        }

        static int byteOf(int number, int i) {
            return number >>> 8 * (BYTES_A_NUMBER - 1 - i) & 255;
        }

        static int bytesIn(int number) {
            int many = 0;
            for (int i = 0; i < BYTES_A_NUMBER; i++) {
                if (byteOf(number, i) != 0) {
                    many++;
                }
            }
            return many;
        }

        int size() {
            return length;
        }

        void append(int number) {
            for (int i = 0; i < BYTES_A_NUMBER; i++) {
                int one = byteOf(number, i);
                if (one != 0 && length < MAX_TAPE) {
                    bytes[length] = one;
                    length++;
                }
            }
        }

        boolean cut(int n) {
            if (n < 0 || n > length) {
                return false;
            }
            length = n;
            return true;
        }

        /** Reads the tape to the draft: its FAULT, or NONE. */
        int read() {
            draft.forget();
            next = 0;
            skipBlanks();
            for (int items = 0; items < MAX_TAPE && next < length; items++) {
                int start = next;
                if (!readItem()) {
                    return start;
                }
                if (peek() != BLANK && peek() != BEHIND) {
                    return next;
                }
                skipBlanks();
            }
            return draft.fieldBits() == 0 ? length : NONE;
        }

        private int peek() {
            return next >= 0 && next < length && next < MAX_TAPE ? bytes[next] : BEHIND;
        }

        private void skipBlanks() {
            for (int i = 0; i < MAX_TAPE && peek() == BLANK; i++) {
                next++;
            }
        }

        private boolean readItem() {
            int field = markedField();
            if (field == NONE || draft.hasField(field)) {
                return false;
            }
            next++;
            if (field == NAMES) {
                return readNames();
            }
            return field == NUMBER ? readSpan() : readValue(field);
        }

        private int markedField() {
            for (int field = 0; field < FIELDS; field++) {
                if (peek() == MARKS[field]) {
                    return field;
                }
            }
            return NONE;
        }

        private boolean readValue(int field) {
            int value = readDigits();
            if (value == NONE || value > HIGHEST[field]) {
                return false;
            }
            draft.setValue(field, value);
            return true;
        }

        private boolean readSpan() {
            int low = readDigits();
            int high = low;
            if (low != NONE && peek() == DASH) {
                next++;
                high = readDigits();
            }
            if (low == NONE || high < low || high > HIGHEST[NUMBER]) {
                return false;
            }
            draft.setSpan(low, high);
            return true;
        }

        private int readDigits() {
            int value = 0;
            int digits = 0;
            for (int i = 0; i < MAX_TAPE && peek() >= '0' && peek() <= '9'; i++) {
                value = digits < MAX_DIGITS ? value * 10 + (peek() - '0') : value;
                digits++;
                next++;
            }
            return digits == 0 || digits > MAX_DIGITS ? NONE : value;
        }

        private boolean readNames() {
            for (int i = 0; i < MAX_NAMES; i++) {
                int name = readName();
                if (name == NONE || draft.hasName(name)) {
                    return false;
                }
                draft.addName(name);
                if (peek() != COMMA) {
                    return true;
                }
                next++;
            }
            // The comma behind the last name that may be asks for one more.
            return false;
        }

        /** A name in one number, its first letter lowest: names are alike if their numbers are. */
        private int readName() {
            int name = 0;
            int letters = 0;
            for (int i = 0; i < MAX_TAPE && peek() >= 'a' && peek() <= 'z'; i++) {
                if (letters < MAX_LETTERS) {
                    name |= peek() - BEFORE_A << LETTER_BITS * letters;
                }
                letters++;
                next++;
            }
            return letters == 0 || letters > MAX_LETTERS ? NONE : name;
        }
    }

    /** One text, correction or denial: the bits of the fields that it speaks of, and what it says of them. */
    private static final class Telling {
        private final int report;
        private final int day;
        private final int bits;
        private final Facts facts;

        Telling(int report, int day, int bits, Facts facts) {
            this.report = report;
            this.day = day;
            this.bits = bits;
            this.facts = facts;
        }
    }

    /** All that was told, in the order in which it was told. */
    private static final class Ledger {
        private static final int MAX_TOLD = MAX_REPORTS + MAX_CHANGES;

        private final Telling[] tellings;
        private final Facts nothing;
        private int told;
        private int reportsTold;
        private int changesTold;

        Ledger() {
            tellings = new Telling[MAX_TOLD];
            nothing = new Facts();
            told = 0;
            reportsTold = 0;
            changesTold = 0;
        }

        int reports() {
            return reportsTold;
        }

        int changes() {
            return changesTold;
        }

        boolean hasReport(int report) {
            return report >= 0 && report < reportsTold;
        }

        boolean takesChange(int report) {
            return hasReport(report) && changesTold < MAX_CHANGES;
        }

        int addReport(int day, Facts draft) {
            int number = reportsTold;
            addText(number, day, draft);
            reportsTold++;
            return number;
        }

        void addCorrection(int report, int day, Facts draft) {
            addText(report, day, draft);
            changesTold++;
        }

        void addDenial(int report, int day, int field) {
            add(new Telling(report, day, 1 << field, nothing));
            changesTold++;
        }

        // The draft is written over by the next text, so a telling has its own copy.
        private void addText(int report, int day, Facts draft) {
            Facts facts = new Facts();
            facts.take(draft, ALL_FIELDS);
            add(new Telling(report, day, facts.fieldBits(), facts));
        }

        private void add(Telling telling) {
            if (told < MAX_TOLD) {
                tellings[told] = telling;
                told++;
            }
        }

        /** Tells anew all that was told on days up to q; what was told later overrides by coming later. */
        void retell(int q, Known known) {
            known.forget();
            for (int i = 0; i < told; i++) {
                Telling telling = tellings[i];
                if (telling != null && telling.day <= q) {
                    known.learn(telling);
                }
            }
        }
    }

    /** The reports as known in one q; they are the first ones, since numbers are given in the order of days. */
    private static final class Known {
        private final Facts[] reports;
        private int many;

        Known() {
            reports = new Facts[MAX_REPORTS];
            for (int r = 0; r < MAX_REPORTS; r++) {
                reports[r] = new Facts();
            }
            many = 0;
        }

        void forget() {
            for (int r = 0; r < MAX_REPORTS; r++) {
                reports[r].forget();
            }
            many = 0;
        }

        void learn(Telling telling) {
            int report = telling.report;
            if (report >= 0 && report < MAX_REPORTS) {
                many = Math.max(many, report + 1);
                reports[report].take(telling.facts, telling.bits);
            }
        }

        int size() {
            return many;
        }

        Facts factsOf(int report) {
            return report >= 0 && report < many && report < MAX_REPORTS ? reports[report] : null;
        }

        int valueOf(int report, int field) {
            Facts facts = factsOf(report);
            return facts == null ? NONE : facts.valueOf(field);
        }

        int highOf(int report) {
            Facts facts = factsOf(report);
            return facts == null ? NONE : facts.highOf();
        }

        int shapeOf(int report) {
            Facts facts = factsOf(report);
            return facts == null ? 0 : facts.fieldBits();
        }

        int holdersOf(int name) {
            int holders = 0;
            for (int r = 0; r < many && r < MAX_REPORTS; r++) {
                if (reports[r].hasName(name)) {
                    holders++;
                }
            }
            return holders;
        }
    }

    /** What a hand told of pairs of reports, held alike both ways round. */
    private static final class Hands {
        private final int[][] words;

        Hands() {
            words = new int[MAX_REPORTS][MAX_REPORTS];
        }

        private static boolean fits(int one, int other) {
            return one >= 0 && one < MAX_REPORTS && other >= 0 && other < MAX_REPORTS;
        }

        void tell(int one, int other, int word) {
            if (fits(one, other)) {
                words[one][other] = word;
                words[other][one] = word;
            }
        }

        int wordOf(int one, int other) {
            return fits(one, other) ? words[one][other] : NEITHER;
        }

        int pairsTold(int word) {
            int many = 0;
            for (int one = 0; one < MAX_REPORTS; one++) {
                for (int other = one + 1; other < MAX_REPORTS; other++) {
                    if (words[one][other] == word) {
                        many++;
                    }
                }
            }
            return many;
        }
    }

    /** What it costs to take two reports for one, as known. */
    private static final class Pairs {
        private static final int FAR_DATES = 9;
        private static final int OTHER_PLACE = 6;
        private static final int OTHER_NUMBER = 4;
        private static final int NAME_GAIN = 12;
        private static final int MANY_HOLDERS = 4;

        private final int[][] costs;
        private final int[] partners;

        Pairs() {
            costs = new int[MAX_REPORTS][MAX_REPORTS];
            partners = new int[MAX_REPORTS];
        }

        /** Reckons the costs of all pairs known, and the partners that a hand told each report to be with. */
        void reckon(Known known, Hands hands) {
            for (int one = 0; one < known.size() && one < MAX_REPORTS; one++) {
                partners[one] = 0;
                for (int other = 0; other < known.size() && other < MAX_REPORTS; other++) {
                    costs[one][other] = one == other ? 0 : between(known, hands, one, other);
                    if (hands.wordOf(one, other) == TOGETHER) {
                        partners[one] |= 1 << other;
                    }
                }
            }
        }

        int reckoned(int one, int other) {
            boolean fits = one >= 0 && one < MAX_REPORTS && other >= 0 && other < MAX_REPORTS;
            return fits ? costs[one][other] : MUST_NOT;
        }

        int partnersOf(int report) {
            return report >= 0 && report < MAX_REPORTS ? partners[report] : 0;
        }

        static int between(Known known, Hands hands, int one, int other) {
            Facts a = known.factsOf(one);
            Facts b = known.factsOf(other);
            if (a == null || b == null) {
                return NO_PAIR;
            }
            if (hands.wordOf(one, other) == APART || differ(a, b, KIND) || datesApart(a, b) > FAR_DATES) {
                return MUST_NOT;
            }
            int cost = datesApart(a, b) - nameGain(known, a, b);
            cost += differ(a, b, PLACE) ? OTHER_PLACE : 0;
            cost += numbersPart(a, b) ? OTHER_NUMBER : 0;
            return cost;
        }

        private static boolean differ(Facts a, Facts b, int field) {
            return a.hasField(field) && b.hasField(field) && a.valueOf(field) != b.valueOf(field);
        }

        private static int datesApart(Facts a, Facts b) {
            return differ(a, b, DATE) ? Math.abs(a.valueOf(DATE) - b.valueOf(DATE)) : 0;
        }

        private static boolean numbersPart(Facts a, Facts b) {
            if (!a.hasField(NUMBER) || !b.hasField(NUMBER)) {
                return false;
            }
            return a.highOf() < b.valueOf(NUMBER) || b.highOf() < a.valueOf(NUMBER);
        }

        private static int nameGain(Known known, Facts a, Facts b) {
            int gain = 0;
            for (int i = 0; i < MAX_NAMES; i++) {
                int name = a.nameAt(i);
                int holders = name != NONE && b.hasName(name) ? known.holdersOf(name) : 0;
                if (holders > 0 && holders <= MANY_HOLDERS) {
                    gain += NAME_GAIN / holders;
                }
            }
            return gain;
        }
    }

    /**
     * The least grouping, found over all sets of reports (as bits).
     *
     * A group has a KEY: above its cost, and below it for each report a digit, which for members is the group's
     * lowest report. Keys of groups apart add up to that of a grouping, and the least such sum is the grouping
     * that the document tells: the lowest cost, then the earlier group where two groupings first differ.
     */
    private static final class Grouping {
        private static final int SETS = 1 << MAX_REPORTS;
        private static final int DIGIT_BITS = 4;
        private static final int DIGIT_MASK = 15;
        private static final int COST_SHIFT = DIGIT_BITS * MAX_REPORTS;
        // Far above every sum of keys.
        private static final long NEVER = 1L << 60;

        private final long[] keys;
        private final long[] least;
        private final int[] lowest;
        private final int[] firsts;
        private long best;
        private int many;

        Grouping() {
            keys = new long[SETS];
            least = new long[SETS];
            lowest = new int[SETS];
            firsts = new int[MAX_REPORTS];
            best = 0;
            many = 0;
            for (int top = 0; top < MAX_REPORTS; top++) {
                lowest[1 << top] = top;
                for (int rest = 1; rest < 1 << top; rest++) {
                    lowest[1 << top | rest] = lowest[rest];
                }
            }
        }

        void find(Pairs pairs, int reports, int open) {
            many = Math.min(Math.max(0, reports), MAX_REPORTS);
            for (int top = 0; top < many; top++) {
                keyGroupsUpTo(top, pairs, open);
            }
            dropTornGroups(pairs);
            least[0] = 0;
            for (int set = 1; set < 1 << many; set++) {
                least[set] = leastFor(set);
            }
            best = least[(1 << many) - 1];
            for (int r = 0; r < many; r++) {
                firsts[r] = (int) (best >> digitShift(r)) & DIGIT_MASK;
            }
        }

        private static int digitShift(int report) {
            return DIGIT_BITS * (MAX_REPORTS - 1 - report);
        }

        /** Keys all groups whose highest report is the top, each from the same group without it. */
        private void keyGroupsUpTo(int top, Pairs pairs, int open) {
            int bit = 1 << top;
            keys[bit] = ((long) open << COST_SHIFT) + ((long) top << digitShift(top));
            for (int rest = 1; rest < bit; rest++) {
                int more = costOfJoining(top, rest, pairs);
                boolean never = more == MUST_NOT || keys[rest] == NEVER;
                long digit = (long) lowest[rest] << digitShift(top);
                keys[bit | rest] = never ? NEVER : keys[rest] + ((long) more << COST_SHIFT) + digit;
            }
        }

        private static int costOfJoining(int top, int rest, Pairs pairs) {
            int more = 0;
            for (int r = 0; r < top; r++) {
                int one = (rest >> r & 1) == 1 ? pairs.reckoned(r, top) : 0;
                if (one == MUST_NOT) {
                    return MUST_NOT;
                }
                more += one;
            }
            return more;
        }

        // Only once all are keyed: a group may lack a partner and yet be the way to one that has it.
        private void dropTornGroups(Pairs pairs) {
            for (int r = 0; r < many; r++) {
                int partners = pairs.partnersOf(r);
                for (int set = 1; set < 1 << many && partners != 0; set++) {
                    if ((set >> r & 1) == 1 && (partners & ~set) != 0) {
                        keys[set] = NEVER;
                    }
                }
            }
        }

        /** The least key of a grouping of a set, by every group that its lowest report may be in. */
        private long leastFor(int set) {
            int low = 1 << lowest[set];
            int others = set & ~low;
            int joined = others;
            long found = NEVER;
            for (int left = 1 << Integer.bitCount(others); left > 0; left--) {
                long key = keys[joined | low];
                long rest = least[others & ~joined];
                if (key != NEVER && rest != NEVER) {
                    found = Math.min(found, key + rest);
                }
                joined = joined - 1 & others;
            }
            return found;
        }

        boolean exists() {
            return best != NEVER;
        }

        int total() {
            return (int) (best >> COST_SHIFT);
        }

        int firstOf(int report) {
            return report >= 0 && report < many && report < MAX_REPORTS ? firsts[report] : NONE;
        }

        int size() {
            int groups = 0;
            for (int r = 0; r < many; r++) {
                if (firstOf(r) == r) {
                    groups++;
                }
            }
            return groups;
        }

        int membersOf(int first) {
            int members = 0;
            for (int r = 0; r < many; r++) {
                if (firstOf(r) == first) {
                    members++;
                }
            }
            return members;
        }
    }

    /** The forms that cost least for the shapes of the reports known. */
    private static final class FormSearch {
        private static final int LACKED = 1;
        private static final int BESIDES = 2;
        private static final int DEARER_THAN_ALL = 1000000;

        private final int[][] costs;
        private final int[] found;
        private int foundMany;
        private int foundCost;
        private int reports;

        FormSearch() {
            costs = new int[MAX_REPORTS][ALL_FIELDS + 1];
            found = new int[MAX_FORMS];
            foundMany = 0;
            foundCost = 0;
            reports = 0;
        }

        void find(Known known, int price) {
            reports = Math.min(known.size(), MAX_REPORTS);
            foundMany = 0;
            foundCost = 0;
            if (reports > 0) {
                reckon(known);
                foundCost = DEARER_THAN_ALL;
                weighOnes(price);
                weighTwos(2 * price);
                weighThrees(3 * price);
            }
        }

        private void reckon(Known known) {
            for (int r = 0; r < reports; r++) {
                int shape = known.shapeOf(r);
                for (int form = 1; form <= ALL_FIELDS; form++) {
                    int lacked = Integer.bitCount(form & ~shape);
                    int besides = Integer.bitCount(shape & ~form);
                    costs[r][form] = LACKED * lacked + BESIDES * besides;
                }
            }
        }

        // Fewer forms are weighed ahead of more and lower ahead of higher, so only a lower cost wins later.
        private void weighOnes(int price) {
            for (int a = 1; a <= ALL_FIELDS; a++) {
                if (weigh(price, a, a, a)) {
                    foundMany = 1;
                }
            }
        }

        private void weighTwos(int price) {
            for (int a = 1; a <= ALL_FIELDS; a++) {
                for (int b = a + 1; b <= ALL_FIELDS; b++) {
                    if (weigh(price, a, b, b)) {
                        foundMany = 2;
                    }
                }
            }
        }

        private void weighThrees(int price) {
            for (int a = 1; a <= ALL_FIELDS; a++) {
                for (int b = a + 1; b <= ALL_FIELDS; b++) {
                    for (int c = b + 1; c <= ALL_FIELDS; c++) {
                        if (weigh(price, a, b, c)) {
                            foundMany = 3;
                        }
                    }
                }
            }
        }

        private boolean weigh(int price, int a, int b, int c) {
            int total = price;
            for (int r = 0; r < reports && total < foundCost; r++) {
                total += Math.min(costs[r][a], Math.min(costs[r][b], costs[r][c]));
            }
            if (total >= foundCost) {
                return false;
            }
            foundCost = total;
            found[0] = a;
            found[1] = b;
            found[2] = c;
            return true;
        }

        int formAt(int i) {
            return i >= 0 && i < foundMany && i < MAX_FORMS ? found[i] : NONE;
        }

        int total() {
            return foundCost;
        }
    }
}
