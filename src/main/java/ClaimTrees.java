/**
 * Filings with claims that hang on claims, papers against them, lands with rules,
 * and products that fall under claims. The document's promises say what each call answers.
 */
public final class ClaimTrees {
    public static final int NONE = -1, UNKNOWN = -1001, OUTSIDE = -1002, NOT = -1003, FULL = -1004;

    private static final int FEATURES = 30, ALL_FEATURES = (1 << FEATURES) - 1;
    private static final int LANDS = 4, ALL_LANDS = (1 << LANDS) - 1;
    private static final int FIELDS = 5, LAST_DAY = 20000, SHOWN_AFTER = 540;
    private static final int MOST_PAPERS = 24, MOST_FILINGS = 8, MOST_ELDERS = 3;
    private static final int MOST_CLAIMS = 40, MOST_VERSIONS = 8, MOST_PRODUCTS = 12;
    private static final int MOST_BYTES = 200, MOST_RULE_BYTES = 120;
    /** A parent takes two bytes of its text at least: its number and a sign. */
    private static final int MOST_PARENTS = MOST_FILINGS * MOST_BYTES / 2;
    private static final int NARROW_LOOKS = 8, AROUND_LOOKS = 12;
    private static final int TAKEN_BY_FILING = 100, FAULT_ANSWER = -10;

    private final Features features = new Features();
    private final Papers papers = new Papers();
    private final Filings filings = new Filings();
    private final Claims tree = new Claims();
    private final Rules[] lands = new Rules[LANDS];
    private final Text text = new Text();
    private final ClaimReader claimReader = new ClaimReader(text, tree);
    private final RuleReader ruleReader = new RuleReader(text);
    private final Judge judge = new Judge(features, papers, filings, tree);
    private final Market market = new Market(features, filings, tree, judge);
    private int faultByte = NONE;

    public ClaimTrees() {
        for (int land = 0; land < LANDS; land++) {
            lands[land] = new Rules();
        }
    }

    // ---- features, papers, filings

    public int kind(int f, int of) {
        if (!within(f, FEATURES) || !within(of, FEATURES)) {
            return UNKNOWN;
        }
        if (!features.tell(f, of)) {
            return NOT;
        }
        papers.refresh(features);
        filings.refresh(features);
        return Integer.bitCount(features.has[f]);
    }

    public int with(int set) {
        return areFeatures(set) ? features.closed(set) : UNKNOWN;
    }

    public int near(int a, int b, boolean is) {
        if (!within(a, FIELDS) || !within(b, FIELDS) || a == b) {
            return OUTSIDE;
        }
        int before = papers.nearTo[a] >> b & 1;
        papers.setNear(a, b, is);
        return before;
    }

    public int paper(int set, int day, int field) {
        if (!areFeatures(set)) {
            return UNKNOWN;
        }
        if (!isDay(day) || !within(field, FIELDS)) {
            return OUTSIDE;
        }
        return papers.add(set, day, field, features);
    }

    public int filing(int set, int day, int field) {
        if (!areFeatures(set)) {
            return UNKNOWN;
        }
        if (!isDay(day) || !within(field, FIELDS)) {
            return OUTSIDE;
        }
        return filings.add(set, day, field, features);
    }

    public int elder(int filing, int set, int day) {
        if (!within(filing, filings.count) || !areFeatures(set)) {
            return UNKNOWN;
        }
        if (!isDay(day) || day > filings.days[filing]) {
            return OUTSIDE;
        }
        return filings.addElder(filing, set, day, features);
    }

    public int count(int what) {
        switch (what) {
            case 0: return papers.count;
            case 1: return filings.count;
            case 2: return tree.count;
            case 3: return market.count;
            case 4: return text.length;
            case 5: return features.told;
            default: return OUTSIDE;
        }
    }

    // ---- texts

    public int feed(int n, long bytes) {
        if (n < 1 || n > 8) {
            return OUTSIDE;
        }
        if (text.length + n > MOST_BYTES) {
            return FULL;
        }
        text.append(n, bytes);
        return text.length;
    }

    public int claims(int filing) {
        if (!within(filing, filings.count)) {
            return UNKNOWN;
        }
        if (filings.claimCounts[filing] > 0) {
            return NOT;
        }
        int fault = claimReader.read(filing);
        text.length = 0;
        faultByte = claimReader.faultByte;
        if (fault != 0) {
            return FAULT_ANSWER - fault;
        }
        filings.firstClaims[filing] = tree.count;
        filings.claimCounts[filing] = claimReader.clauses;
        tree.keep(claimReader.clauses);
        return claimReader.clauses;
    }

    public int rules(int land) {
        if (!within(land, LANDS)) {
            return UNKNOWN;
        }
        if (text.length > MOST_RULE_BYTES) {
            return NOT;
        }
        int fault = ruleReader.read();
        text.length = 0;
        faultByte = ruleReader.faultByte;
        if (fault != 0) {
            return FAULT_ANSWER - fault;
        }
        lands[land].copy(ruleReader.draft);
        return ruleReader.clauses;
    }

    public int fault() {
        return faultByte;
    }

    public int rule(int land, int what) {
        if (!within(land, LANDS)) {
            return UNKNOWN;
        }
        return within(what, Rules.KINDS) ? lands[land].values[what] : OUTSIDE;
    }

    // ---- claims

    public int first(int filing) {
        if (!within(filing, filings.count)) {
            return UNKNOWN;
        }
        return filings.claimCounts[filing] > 0 ? filings.firstClaims[filing] : NONE;
    }

    public int claim(int c, int what) {
        if (!within(c, tree.count)) {
            return UNKNOWN;
        }
        switch (what) {
            case 0: return tree.filingOf[c];
            case 1: return tree.own[c];
            case 2: return tree.added[c];
            case 3: return tree.versionCounts[c];
            case 4: return tree.hangingOn(c);
            default: return OUTSIDE;
        }
    }

    public int version(int c, int i) {
        if (!within(c, tree.count)) {
            return UNKNOWN;
        }
        return within(i, tree.versionCounts[c]) ? tree.versionAt(c, i) : NONE;
    }

    public int day(int c, int i, int land) {
        if (!within(c, tree.count) || !within(land, LANDS)) {
            return UNKNOWN;
        }
        if (!within(i, tree.versionCounts[c])) {
            return NONE;
        }
        return filings.versionDay(tree.versionAt(c, i), tree.filingOf[c], lands[land]);
    }

    public int does(int c, int i, int land) {
        if (!within(c, tree.count) || !within(land, LANDS)) {
            return UNKNOWN;
        }
        if (!within(i, tree.versionCounts[c])) {
            return NONE;
        }
        int set = tree.versionAt(c, i);
        if (judge.taker(set, tree.filingOf[c], lands[land]) != NONE) {
            return 1;
        }
        return judge.easyPapers(set, tree.filingOf[c], lands[land]) != NONE ? 2 : 0;
    }

    public int by(int c, int i, int land) {
        if (!within(c, tree.count) || !within(land, LANDS)) {
            return UNKNOWN;
        }
        if (!within(i, tree.versionCounts[c])) {
            return NONE;
        }
        int set = tree.versionAt(c, i);
        int taker = judge.taker(set, tree.filingOf[c], lands[land]);
        return taker != NONE ? taker : judge.easyPapers(set, tree.filingOf[c], lands[land]);
    }

    public int stands(int c, int land) {
        if (!within(c, tree.count) || !within(land, LANDS)) {
            return UNKNOWN;
        }
        return judge.upholds(c, 0, lands[land]) ? 1 : 0;
    }

    public int wider(int a, int b) {
        if (!within(a, tree.count) || !within(b, tree.count)) {
            return UNKNOWN;
        }
        for (int i = 0; i < tree.versionCounts[b]; i++) {
            if (!tree.takesIn(a, features.closed(tree.versionAt(b, i)))) {
                return 0;
            }
        }
        return 1;
    }

    public int narrow(int c, int set) {
        if (!within(c, tree.count) || !areFeatures(set)) {
            return UNKNOWN;
        }
        int filing = tree.filingOf[c];
        if ((set & ~filings.has[filing]) != 0) {
            return NOT;
        }
        int end = filings.firstClaims[filing] + filings.claimCounts[filing];
        return tree.addFeatures(c, set, end) ? Integer.bitCount(tree.added[c]) : FULL;
    }

    public int toNarrow(int c, int land) {
        if (!within(c, tree.count) || !within(land, LANDS)) {
            return UNKNOWN;
        }
        return judge.leastAddition(c, lands[land]);
    }

    // ---- fees, products

    public int pay(int filing, int land, int day) {
        if (!within(filing, filings.count) || !within(land, LANDS)) {
            return UNKNOWN;
        }
        if (!isDay(day)) {
            return OUTSIDE;
        }
        int before = filings.paidUntil(filing, land);
        filings.setPaid(filing, land, day);
        return before;
    }

    public int force(int filing, int land, int day) {
        if (!within(filing, filings.count) || !within(land, LANDS)) {
            return UNKNOWN;
        }
        if (!isDay(day)) {
            return OUTSIDE;
        }
        return filings.inForce(filing, land, day, lands[land]) ? 1 : 0;
    }

    public int product(int set, int lands, int day) {
        if (!areFeatures(set) || (lands & ~ALL_LANDS) != 0) {
            return UNKNOWN;
        }
        return isDay(day) ? market.add(set, lands, day) : OUTSIDE;
    }

    public int falls(int p, int land, int day, int what) {
        if (!within(p, market.count) || !within(land, LANDS)) {
            return UNKNOWN;
        }
        if (!isDay(day) || !within(what, 2)) {
            return OUTSIDE;
        }
        return what == 0 ? market.firstHit(p, land, day, lands[land]) : market.hits(p, land, day, lands[land]);
    }

    public int around(int p, int land, int day) {
        if (!within(p, market.count) || !within(land, LANDS)) {
            return UNKNOWN;
        }
        return isDay(day) ? market.leastOmission(p, land, day, lands[land]) : OUTSIDE;
    }

    public int since(int p, int c, int land) {
        if (!within(p, market.count) || !within(c, tree.count) || !within(land, LANDS)) {
            return UNKNOWN;
        }
        return market.firstDay(p, c, land, lands[land]);
    }

    private static boolean within(int number, int bound) {
        return number >= 0 && number < bound;
    }

    private static boolean isDay(int day) {
        return within(day, LAST_DAY + 1);
    }

    private static boolean areFeatures(int set) {
        return (set & ~ALL_FEATURES) == 0;
    }

    /** The first bits of a set, as many as are looked at. */
    private static int lowest(int set, int most) {
        int rest = set;
        for (int n = 0; n < most; n++) {
            rest &= rest - 1;
        }
        return set & ~rest;
    }

    /** Which features each feature brings along, itself among them. */
    private static final class Features {
        final int[] has = new int[FEATURES];
        private final boolean[] ofKind = new boolean[FEATURES];
        int told = 0;

        Features() {
            for (int f = 0; f < FEATURES; f++) {
                has[f] = 1 << f;
            }
        }

        boolean tell(int f, int of) {
            if (ofKind[f] || (has[of] >> f & 1) != 0) {
                return false;
            }
            ofKind[f] = true;
            told++;
            for (int each = 0; each < FEATURES; each++) {
                if ((has[each] >> f & 1) != 0) {
                    has[each] |= has[of];
                }
            }
            return true;
        }

        int closed(int set) {
            int all = 0;
            for (int f = 0; f < FEATURES; f++) {
                if ((set >> f & 1) != 0) {
                    all |= has[f];
                }
            }
            return all;
        }
    }

    /** Papers, and which fields are near. What a paper has with kinds is kept, as judging asks for it often. */
    private static final class Papers {
        final int[] has = new int[MOST_PAPERS];
        final int[] fields = new int[MOST_PAPERS];
        final int[] nearTo = new int[FIELDS];
        private final int[] sets = new int[MOST_PAPERS];
        private final int[] days = new int[MOST_PAPERS];
        int count = 0;

        Papers() {
            for (int field = 0; field < FIELDS; field++) {
                nearTo[field] = 1 << field;
            }
        }

        void setNear(int a, int b, boolean is) {
            nearTo[a] = is ? nearTo[a] | 1 << b : nearTo[a] & ~(1 << b);
            nearTo[b] = is ? nearTo[b] | 1 << a : nearTo[b] & ~(1 << a);
        }

        int add(int set, int day, int field, Features features) {
            if (count >= MOST_PAPERS) {
                return FULL;
            }
            sets[count] = set;
            has[count] = features.closed(set);
            days[count] = day;
            fields[count] = field;
            count++;
            return count - 1;
        }

        void refresh(Features features) {
            for (int p = 0; p < count; p++) {
                has[p] = features.closed(sets[p]);
            }
        }

        int firstWithAll(int set, int before) {
            for (int p = 0; p < count; p++) {
                if (days[p] < before && (set & ~has[p]) == 0) {
                    return p;
                }
            }
            return NONE;
        }

        /** Papers told before a day, in one of some fields, that have any of a set. */
        int helpful(int set, int before, int someFields) {
            int found = 0;
            for (int p = 0; p < count; p++) {
                if (days[p] < before && (someFields >> fields[p] & 1) != 0 && (set & has[p]) != 0) {
                    found |= 1 << p;
                }
            }
            return found;
        }

        int together(int some) {
            int all = 0;
            for (int p = 0; p < count; p++) {
                if ((some >> p & 1) != 0) {
                    all |= has[p];
                }
            }
            return all;
        }
    }

    /** Filings with their elders, their range of claims and the fees paid for them. */
    private static final class Filings {
        final int[] sets = new int[MOST_FILINGS];
        final int[] has = new int[MOST_FILINGS];
        final int[] days = new int[MOST_FILINGS];
        final int[] fields = new int[MOST_FILINGS];
        final int[] firstClaims = new int[MOST_FILINGS];
        final int[] claimCounts = new int[MOST_FILINGS];
        private final int[] elderCounts = new int[MOST_FILINGS];
        private final int[] elderSets = new int[MOST_FILINGS * MOST_ELDERS];
        private final int[] elderHas = new int[MOST_FILINGS * MOST_ELDERS];
        private final int[] elderDays = new int[MOST_FILINGS * MOST_ELDERS];
        private final int[] paid = new int[MOST_FILINGS * LANDS];
        int count = 0;

        Filings() {
            for (int i = 0; i < paid.length; i++) {
                paid[i] = NONE;
            }
        }

        int add(int set, int day, int field, Features features) {
            if (count >= MOST_FILINGS) {
                return FULL;
            }
            sets[count] = set;
            has[count] = features.closed(set);
            days[count] = day;
            fields[count] = field;
            count++;
            return count - 1;
        }

        int addElder(int filing, int set, int day, Features features) {
            if (elderCounts[filing] >= MOST_ELDERS) {
                return FULL;
            }
            int at = filing * MOST_ELDERS + elderCounts[filing];
            elderSets[at] = set;
            elderHas[at] = features.closed(set);
            elderDays[at] = day;
            elderCounts[filing]++;
            return elderCounts[filing];
        }

        void refresh(Features features) {
            for (int f = 0; f < count; f++) {
                has[f] = features.closed(sets[f]);
                for (int e = 0; e < elderCounts[f]; e++) {
                    elderHas[f * MOST_ELDERS + e] = features.closed(elderSets[f * MOST_ELDERS + e]);
                }
            }
        }

        int versionDay(int set, int filing, Rules rules) {
            int earliest = days[filing];
            int oldest = days[filing] - rules.values[Rules.YEAR];
            for (int e = 0; e < elderCounts[filing]; e++) {
                int at = filing * MOST_ELDERS + e;
                if (elderDays[at] >= oldest && elderDays[at] < earliest && (set & ~elderHas[at]) == 0) {
                    earliest = elderDays[at];
                }
            }
            return earliest;
        }

        /** The first other filing told before a day, and not shown before it, that has all of a set. */
        int firstHiddenWithAll(int set, int filing, int day) {
            for (int f = 0; f < count; f++) {
                boolean hidden = days[f] < day && days[f] + SHOWN_AFTER >= day;
                if (f != filing && hidden && (set & ~has[f]) == 0) {
                    return f;
                }
            }
            return NONE;
        }

        int paidUntil(int filing, int land) {
            return paid[filing * LANDS + land];
        }

        void setPaid(int filing, int land, int day) {
            paid[filing * LANDS + land] = day;
        }

        boolean inForce(int filing, int land, int day, Rules rules) {
            return day >= days[filing] + SHOWN_AFTER
                && day <= paidUntil(filing, land)
                && day - days[filing] < rules.values[Rules.TERM];
        }
    }

    /** Claims in the order of their numbers; those behind count are a text's that is being read. */
    private static final class Claims {
        final int[] filingOf = new int[MOST_CLAIMS];
        final int[] own = new int[MOST_CLAIMS];
        final int[] added = new int[MOST_CLAIMS];
        final int[] versionCounts = new int[MOST_CLAIMS];
        private final int[] versions = new int[MOST_CLAIMS * MOST_VERSIONS];
        private final long[] ancestors = new long[MOST_CLAIMS];
        private final int[] parentStarts = new int[MOST_CLAIMS];
        private final int[] parentEnds = new int[MOST_CLAIMS];
        private final int[] parents = new int[MOST_PARENTS];
        int count = 0;

        boolean isFull(int draft) {
            return count + draft >= MOST_CLAIMS;
        }

        void beginDraft(int draft, int filing) {
            int c = count + draft;
            filingOf[c] = filing;
            own[c] = 0;
            added[c] = 0;
            ancestors[c] = 0;
            parentStarts[c] = c == 0 ? 0 : parentEnds[c - 1];
            parentEnds[c] = parentStarts[c];
        }

        /** Whether the feature is new to the claim that is being read. */
        boolean addOwn(int draft, int f) {
            int c = count + draft;
            boolean isNew = (own[c] >> f & 1) == 0;
            own[c] |= 1 << f;
            return isNew;
        }

        /** Whether the parent is new to the claim that is being read. */
        boolean addParent(int draft, int parentDraft) {
            int c = count + draft;
            int parent = count + parentDraft;
            for (int k = parentStarts[c]; k < parentEnds[c]; k++) {
                if (parents[k] == parent) {
                    return false;
                }
            }
            if (parentEnds[c] < MOST_PARENTS) {
                parents[parentEnds[c]] = parent;
                parentEnds[c]++;
            }
            ancestors[c] |= ancestors[parent] | 1L << parent;
            return true;
        }

        boolean endDraft(int draft) {
            return build(count + draft);
        }

        void keep(int drafts) {
            count += drafts;
        }

        int versionAt(int c, int i) {
            return versions[c * MOST_VERSIONS + i];
        }

        /** Makes the versions of a claim from those of its parents; false if they are too many. */
        private boolean build(int c) {
            int more = own[c] | added[c];
            versionCounts[c] = 0;
            if (parentStarts[c] == parentEnds[c]) {
                return addVersion(c, more);
            }
            for (int k = parentStarts[c]; k < parentEnds[c]; k++) {
                int parent = parents[k];
                for (int i = 0; i < versionCounts[parent]; i++) {
                    if (!addVersion(c, versionAt(parent, i) | more)) {
                        return false;
                    }
                }
            }
            return true;
        }

        private boolean addVersion(int c, int set) {
            for (int i = 0; i < versionCounts[c]; i++) {
                if (versionAt(c, i) == set) {
                    return true;
                }
            }
            if (versionCounts[c] >= MOST_VERSIONS) {
                return false;
            }
            versions[c * MOST_VERSIONS + versionCounts[c]] = set;
            versionCounts[c]++;
            return true;
        }

        private boolean buildAll(int from, int end) {
            for (int c = from; c < end; c++) {
                if (!build(c)) {
                    return false;
                }
            }
            return true;
        }

        /** Narrows a claim; what hangs on it stands between it and the end of its filing's claims. */
        boolean addFeatures(int c, int set, int end) {
            int before = added[c];
            added[c] = before | set;
            if (buildAll(c, end)) {
                return true;
            }
            added[c] = before;
            buildAll(c, end);
            return false;
        }

        int hangingOn(int c) {
            int found = 0;
            for (int each = 0; each < count; each++) {
                if ((ancestors[each] >> c & 1) != 0) {
                    found++;
                }
            }
            return found;
        }

        /** Whether something that has a closed set has all features of some version. */
        boolean takesIn(int c, int closedSet) {
            for (int i = 0; i < versionCounts[c]; i++) {
                if ((versionAt(c, i) & ~closedSet) == 0) {
                    return true;
                }
            }
            return false;
        }

        int inAllVersions(int c) {
            int common = ALL_FEATURES;
            for (int i = 0; i < versionCounts[c]; i++) {
                common &= versionAt(c, i);
            }
            return common;
        }
    }

    /** The rules of a land, in the order in which rule() tells them. */
    private static final class Rules {
        static final int MOST = 0, YEAR = 1, GRACE = 2, SECRET = 3, TERM = 4, KNOWN = 5, KINDS = 6;
        private static final int[] AT_FIRST = {2, 365, 0, 1, 7300, 0};
        final int[] values = new int[KINDS];

        Rules() {
            reset();
        }

        private void reset() {
            for (int what = 0; what < KINDS; what++) {
                values[what] = AT_FIRST[what];
            }
        }

        void copy(Rules other) {
            for (int what = 0; what < KINDS; what++) {
                values[what] = other.values[what];
            }
        }
    }

    /** The text that is fed, and the word, number or sign at which its reader stands. */
    private static final class Text {
        static final int END = 0, WORD = 1, NUMBER = 2, SIGN = 3;
        /** Above every number that a text may tell, so that long ones cannot wrap round. */
        private static final int TOO_HIGH = 100000;
        private final int[] signs = new int[MOST_BYTES];
        int length = 0;
        int type = END;
        int start = 0;
        int value = 0;
        private int next = 0;

        void append(int n, long bytes) {
            for (int i = n - 1; i >= 0 && length < MOST_BYTES; i--) {
                signs[length] = (int) (bytes >> 8 * i & 255);
                length++;
            }
        }

        void begin() {
            next = 0;
            step();
        }

        void step() {
            while (next < length && signs[next] == ' ') {
                next++;
            }
            start = next;
            if (next >= length) {
                type = END;
            } else if (isLetter(signs[next])) {
                readWord();
            } else if (isFigure(signs[next])) {
                readNumber();
            } else {
                type = SIGN;
                next++;
            }
        }

        private void readWord() {
            type = WORD;
            while (next < length && isLetter(signs[next])) {
                next++;
            }
        }

        private void readNumber() {
            type = NUMBER;
            value = 0;
            while (next < length && isFigure(signs[next])) {
                value = Math.min(value * 10 + signs[next] - '0', TOO_HIGH);
                next++;
            }
        }

        int figures() {
            return next - start;
        }

        boolean isWord(String word) {
            if (type != WORD || next - start != word.length()) {
                return false;
            }
            for (int i = 0; i < word.length(); i++) {
                if (signs[start + i] != word.charAt(i)) {
                    return false;
                }
            }
            return true;
        }

        boolean isSign(char sign) {
            return type == SIGN && signs[start] == sign;
        }

        private static boolean isLetter(int sign) {
            return sign >= 'a' && sign <= 'z';
        }

        private static boolean isFigure(int sign) {
            return sign >= '0' && sign <= '9';
        }
    }

    /** Reads claims into the tree, behind those that it keeps; each part answers its fault's number or 0. */
    private static final class ClaimReader {
        private static final int MOST_FIGURES = 2;
        private final Text text;
        private final Claims tree;
        int faultByte = NONE;
        int clauses = 0;

        ClaimReader(Text text, Claims tree) {
            this.text = text;
            this.tree = tree;
        }

        int read(int filing) {
            faultByte = NONE;
            clauses = 0;
            text.begin();
            for (int n = 0; n < MOST_BYTES && text.type != Text.END; n++) {
                int number = readClause(filing);
                if (number != 0) {
                    return number;
                }
                clauses++;
            }
            return 0;
        }

        private int faulty(int number) {
            faultByte = text.start;
            return number;
        }

        private int readClause(int filing) {
            if (!text.isWord("claim")) {
                return faulty(1);
            }
            if (tree.isFull(clauses)) {
                return faulty(6);
            }
            tree.beginDraft(clauses, filing);
            text.step();
            int number = readFeatures();
            if (number == 0 && text.isWord("of")) {
                number = readParents();
            }
            if (number != 0) {
                return number;
            }
            if (!text.isSign(';')) {
                return faulty(1);
            }
            if (!tree.endDraft(clauses)) {
                return faulty(5);
            }
            text.step();
            return 0;
        }

        private int readFeatures() {
            if (text.type != Text.NUMBER) {
                return faulty(1);
            }
            for (int n = 0; n < MOST_BYTES && text.type == Text.NUMBER; n++) {
                if (text.figures() > MOST_FIGURES || text.value >= FEATURES) {
                    return faulty(2);
                }
                if (!tree.addOwn(clauses, text.value)) {
                    return faulty(3);
                }
                text.step();
            }
            return 0;
        }

        private int readParents() {
            boolean more = true;
            for (int n = 0; n < MOST_BYTES && more; n++) {
                text.step();
                if (text.type != Text.NUMBER) {
                    return faulty(1);
                }
                if (text.figures() > MOST_FIGURES) {
                    return faulty(2);
                }
                if (text.value >= clauses) {
                    return faulty(4);
                }
                if (!tree.addParent(clauses, text.value)) {
                    return faulty(3);
                }
                text.step();
                more = text.isSign(',');
            }
            return 0;
        }
    }

    /** Reads rules into a draft; each part answers its fault's number or 0. */
    private static final class RuleReader {
        private static final int MOST_FIGURES = 4;
        /** By the numbers of the rules: the least and the highest that a text may tell. */
        private static final int[] LEAST = {1, 0, 0, 0, 1, 0};
        private static final int[] HIGHEST = {3, 999, 999, 1, 9999, FEATURES - 1};
        private final Text text;
        final Rules draft = new Rules();
        private int seen = 0;
        int faultByte = NONE;
        int clauses = 0;

        RuleReader(Text text) {
            this.text = text;
        }

        int read() {
            faultByte = NONE;
            clauses = 0;
            seen = 0;
            draft.reset();
            text.begin();
            for (int n = 0; n < MOST_BYTES && text.type != Text.END; n++) {
                int number = readClause();
                if (number != 0) {
                    return number;
                }
                clauses++;
            }
            return 0;
        }

        private int faulty(int number) {
            faultByte = text.start;
            return number;
        }

        private int readClause() {
            int what = ruleNamed();
            if (what == NONE) {
                return faulty(1);
            }
            if (what != Rules.KNOWN && (seen >> what & 1) != 0) {
                return faulty(3);
            }
            seen |= 1 << what;
            text.step();
            int number = what == Rules.SECRET ? readYes() : readNumber(what);
            if (number != 0) {
                return number;
            }
            text.step();
            if (!text.isSign(';')) {
                return faulty(1);
            }
            text.step();
            return 0;
        }

        private int ruleNamed() {
            if (text.isWord("most")) {
                return Rules.MOST;
            }
            if (text.isWord("year")) {
                return Rules.YEAR;
            }
            if (text.isWord("grace")) {
                return Rules.GRACE;
            }
            if (text.isWord("secret")) {
                return Rules.SECRET;
            }
            if (text.isWord("term")) {
                return Rules.TERM;
            }
            return text.isWord("known") ? Rules.KNOWN : NONE;
        }

        private int readYes() {
            boolean yes = text.isWord("yes");
            if (!yes && !text.isWord("no")) {
                return faulty(1);
            }
            draft.values[Rules.SECRET] = yes ? 1 : 0;
            return 0;
        }

        private int readNumber(int what) {
            if (text.type != Text.NUMBER) {
                return faulty(1);
            }
            if (text.figures() > MOST_FIGURES || text.value < LEAST[what] || text.value > HIGHEST[what]) {
                return faulty(2);
            }
            if (what == Rules.KNOWN) {
                draft.values[what] |= 1 << text.value;
            } else {
                draft.values[what] = text.value;
            }
            return 0;
        }
    }

    /** Whether versions are taken or easy, and what a claim must be narrowed by to stand. */
    private static final class Judge {
        private final Features features;
        private final Papers papers;
        private final Filings filings;
        private final Claims tree;

        Judge(Features features, Papers papers, Filings filings, Claims tree) {
            this.features = features;
            this.papers = papers;
            this.filings = filings;
            this.tree = tree;
        }

        /** The first paper, or 100 and the first filing, that takes a version; NONE. */
        int taker(int set, int filing, Rules rules) {
            int day = filings.versionDay(set, filing, rules);
            int paper = papers.firstWithAll(set, day - rules.values[Rules.GRACE]);
            if (paper != NONE || rules.values[Rules.SECRET] == 0) {
                return paper;
            }
            int hidden = filings.firstHiddenWithAll(set, filing, day);
            return hidden == NONE ? NONE : TAKEN_BY_FILING + hidden;
        }

        /** The fewest papers that make a version easy that is not taken; NONE. */
        int easyPapers(int set, int filing, Rules rules) {
            int need = set & ~features.closed(rules.values[Rules.KNOWN]);
            int before = filings.versionDay(set, filing, rules) - rules.values[Rules.GRACE];
            int fields = papers.nearTo[filings.fields[filing]];
            int helpful = papers.helpful(need, before, fields);
            if ((need & ~papers.together(helpful)) != 0) {
                return NONE;
            }
            for (int most = 0; most <= rules.values[Rules.MOST]; most++) {
                int found = cover(papers, need, helpful, fields, 0, most);
                if (found != NONE) {
                    return found;
                }
            }
            return NONE;
        }

        /** The first set of at most so many papers, from one on, of fields near to all, that have what is needed. */
        private static int cover(Papers papers, int need, int helpful, int fields, int from, int most) {
            if (need == 0) {
                return 0;
            }
            if (most <= 0) {
                return NONE;
            }
            for (int p = from; p < papers.count; p++) {
                int open = need & ~papers.has[p];
                boolean helps = most == 1 ? open == 0 : open != need;
                if (helps && (helpful >> p & 1) != 0 && (fields >> papers.fields[p] & 1) != 0) {
                    int near = fields & papers.nearTo[papers.fields[p]];
                    int rest = cover(papers, open, helpful, near, p + 1, most - 1);
                    if (rest != NONE) {
                        return rest | 1 << p;
                    }
                }
            }
            return NONE;
        }

        /** Whether a claim would stand with more features in all its versions. */
        boolean upholds(int c, int more, Rules rules) {
            int filing = tree.filingOf[c];
            for (int i = 0; i < tree.versionCounts[c]; i++) {
                int set = tree.versionAt(c, i) | more;
                if (taker(set, filing, rules) != NONE || easyPapers(set, filing, rules) != NONE) {
                    return false;
                }
            }
            return true;
        }

        /** Looks at the subsets from the least on, so that of like ones the least stays. */
        int leastAddition(int c, Rules rules) {
            int looked = lowest(filings.sets[tree.filingOf[c]] & ~tree.inAllVersions(c), NARROW_LOOKS);
            int subsets = 1 << Integer.bitCount(looked);
            int best = NONE;
            int fewest = FEATURES;
            int more = 0;
            for (int n = 0; n < subsets && fewest > 0; n++) {
                if (Integer.bitCount(more) < fewest && upholds(c, more, rules)) {
                    best = more;
                    fewest = Integer.bitCount(more);
                }
                more = (more - looked) & looked;
            }
            return best;
        }
    }

    /** Products, and the claims that they fall under. */
    private static final class Market {
        private final Features features;
        private final Filings filings;
        private final Claims tree;
        private final Judge judge;
        private final int[] sets = new int[MOST_PRODUCTS];
        private final int[] landSets = new int[MOST_PRODUCTS];
        private final int[] days = new int[MOST_PRODUCTS];
        private final int[] threats = new int[MOST_CLAIMS];
        private int threatCount = 0;
        int count = 0;

        Market(Features features, Filings filings, Claims tree, Judge judge) {
            this.features = features;
            this.filings = filings;
            this.tree = tree;
            this.judge = judge;
        }

        int add(int set, int landSet, int day) {
            if (count >= MOST_PRODUCTS) {
                return FULL;
            }
            sets[count] = set;
            landSets[count] = landSet;
            days[count] = day;
            count++;
            return count - 1;
        }

        private boolean isThere(int p, int land, int day) {
            return (landSets[p] >> land & 1) != 0 && days[p] <= day;
        }

        /** Keeps in mind the claims that a product falls under. */
        private void gather(int p, int land, int day, Rules rules) {
            threatCount = 0;
            int closedSet = features.closed(sets[p]);
            for (int c = 0; c < tree.count; c++) {
                if (hitBy(p, c, land, day, closedSet, rules)) {
                    threats[threatCount] = c;
                    threatCount++;
                }
            }
        }

        private boolean hitBy(int p, int c, int land, int day, int closedSet, Rules rules) {
            return isThere(p, land, day)
                && filings.inForce(tree.filingOf[c], land, day, rules)
                && tree.takesIn(c, closedSet)
                && judge.upholds(c, 0, rules);
        }

        int firstHit(int p, int land, int day, Rules rules) {
            gather(p, land, day, rules);
            return threatCount > 0 ? threats[0] : NONE;
        }

        int hits(int p, int land, int day, Rules rules) {
            gather(p, land, day, rules);
            return threatCount;
        }

        /** With fewer features it falls under no claim that it does not fall under with all of them. */
        int leastOmission(int p, int land, int day, Rules rules) {
            gather(p, land, day, rules);
            int looked = lowest(sets[p], AROUND_LOOKS);
            int subsets = 1 << Integer.bitCount(looked);
            int best = NONE;
            int fewest = FEATURES;
            int less = 0;
            for (int n = 0; n < subsets && fewest > 0; n++) {
                if (Integer.bitCount(less) < fewest && isFree(sets[p] & ~less)) {
                    best = less;
                    fewest = Integer.bitCount(less);
                }
                less = (less - looked) & looked;
            }
            return best;
        }

        private boolean isFree(int set) {
            int closedSet = features.closed(set);
            for (int t = 0; t < threatCount; t++) {
                if (tree.takesIn(threats[t], closedSet)) {
                    return false;
                }
            }
            return true;
        }

        /** A claim in force stays so without a gap: if not from the first possible day on, then never. */
        int firstDay(int p, int c, int land, Rules rules) {
            int day = Math.max(days[p], filings.days[tree.filingOf[c]] + SHOWN_AFTER);
            return hitBy(p, c, land, day, features.closed(sets[p]), rules) ? day : NONE;
        }
    }
}
