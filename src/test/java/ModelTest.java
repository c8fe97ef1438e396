import java.util.ArrayList;
import java.util.HashMap;
import java.util.LinkedHashSet;
import java.util.List;
import java.util.Map;
import java.util.Random;
import java.util.Set;
import java.util.TreeMap;
import java.util.TreeSet;

/** Long random runs against a second, slower telling of the document that keeps nothing but what was told. */
public final class ModelTest {
    private static final int NONE = -1, UNKNOWN = -1001, OUTSIDE = -1002, NOT = -1003, FULL = -1004;

    record Paper(Set<Integer> set, int day, int field) { }
    record Elder(Set<Integer> set, int day) { }
    record Product(Set<Integer> set, Set<Integer> lands, int day) { }
    record Token(char type, String word, int at) { }
    record Faulted(int number, int at) { }

    static final class Filing {
        Set<Integer> set;
        int day;
        int field;
        List<Elder> elders = new ArrayList<>();
        List<Integer> claims = new ArrayList<>();
        Map<Integer, Integer> paid = new HashMap<>();
    }

    static final class Claim {
        int filing;
        Set<Integer> own = new TreeSet<>();
        Set<Integer> added = new TreeSet<>();
        List<Integer> parents = new ArrayList<>();
    }

    static final class Land {
        Map<String, Integer> told = new HashMap<>();
        Set<Integer> known = new TreeSet<>();

        int get(String name) {
            return told.getOrDefault(name, Map.of("most", 2, "year", 365, "grace", 0, "secret", 1, "term", 7300).get(name));
        }
    }

    /** The document once more, by sets and lists. */
    static final class Model {
        Map<Integer, Integer> kinds = new HashMap<>();
        Set<Set<Integer>> near = new LinkedHashSet<>();
        List<Paper> papers = new ArrayList<>();
        List<Filing> filings = new ArrayList<>();
        List<Claim> claims = new ArrayList<>();
        List<Product> products = new ArrayList<>();
        List<Land> lands = new ArrayList<>(List.of(new Land(), new Land(), new Land(), new Land()));
        StringBuilder text = new StringBuilder();
        int fault = NONE;

        static boolean in(int n, int low, int high) {
            return low <= n && n <= high;
        }

        static Set<Integer> setOf(int bits) {
            Set<Integer> set = new TreeSet<>();
            for (int k = 0; k < 32; k++) {
                if ((bits >>> k & 1) == 1) {
                    set.add(k);
                }
            }
            return set;
        }

        static int bitsOf(Set<Integer> set) {
            int bits = 0;
            for (int k : set) {
                bits += 1 << k;
            }
            return bits;
        }

        static boolean features(int bits) {
            return setOf(bits).stream().allMatch(k -> k <= 29);
        }

        Set<Integer> withKinds(Set<Integer> set) {
            Set<Integer> all = new TreeSet<>(set);
            for (int f : set) {
                Integer at = kinds.get(f);
                while (at != null) {
                    all.add(at);
                    at = kinds.get(at);
                }
            }
            return all;
        }

        boolean nearFields(int a, int b) {
            return a == b || near.contains(Set.of(a, b));
        }

        List<Set<Integer>> versions(int c) {
            Claim claim = claims.get(c);
            LinkedHashSet<Set<Integer>> all = new LinkedHashSet<>();
            if (claim.parents.isEmpty()) {
                Set<Integer> set = new TreeSet<>(claim.own);
                set.addAll(claim.added);
                all.add(set);
            }
            for (int parent : claim.parents) {
                for (Set<Integer> version : versions(parent)) {
                    Set<Integer> set = new TreeSet<>(version);
                    set.addAll(claim.own);
                    set.addAll(claim.added);
                    all.add(set);
                }
            }
            return new ArrayList<>(all);
        }

        int versionDay(Set<Integer> version, Filing filing, Land land) {
            return filing.elders.stream()
                .filter(e -> filing.day - e.day <= land.get("year") && withKinds(e.set).containsAll(version))
                .mapToInt(Elder::day).min().orElse(filing.day);
        }

        int taken(Set<Integer> version, Filing filing, Land land) {
            int day = versionDay(version, filing, land);
            for (int p = 0; p < papers.size(); p++) {
                if (counts(p, day, land) && withKinds(papers.get(p).set).containsAll(version)) {
                    return p;
                }
            }
            for (int f = 0; f < filings.size() && land.get("secret") == 1; f++) {
                Filing other = filings.get(f);
                if (other != filing && other.day < day && !(other.day + 540 < day)
                    && withKinds(other.set).containsAll(version)) {
                    return 100 + f;
                }
            }
            return NONE;
        }

        boolean counts(int p, int day, Land land) {
            return day - papers.get(p).day > land.get("grace");
        }

        int easy(Set<Integer> version, Filing filing, Land land) {
            int day = versionDay(version, filing, land);
            List<Integer> able = new ArrayList<>();
            for (int p = 0; p < papers.size(); p++) {
                if (counts(p, day, land) && nearFields(papers.get(p).field, filing.field)) {
                    able.add(p);
                }
            }
            for (int size = 0; size <= land.get("most"); size++) {
                int found = easyOf(version, land, able, size, new ArrayList<>());
                if (found != NONE) {
                    return found;
                }
            }
            return NONE;
        }

        private int easyOf(Set<Integer> version, Land land, List<Integer> able, int size, List<Integer> chosen) {
            if (chosen.size() == size) {
                Set<Integer> all = withKinds(land.known);
                for (int p : chosen) {
                    all.addAll(withKinds(papers.get(p).set));
                    for (int q : chosen) {
                        if (!nearFields(papers.get(p).field, papers.get(q).field)) {
                            return NONE;
                        }
                    }
                }
                return all.containsAll(version) ? bitsOf(new TreeSet<>(chosen)) : NONE;
            }
            for (int p : able) {
                if (chosen.isEmpty() || p > chosen.get(chosen.size() - 1)) {
                    List<Integer> more = new ArrayList<>(chosen);
                    more.add(p);
                    int found = easyOf(version, land, able, size, more);
                    if (found != NONE) {
                        return found;
                    }
                }
            }
            return NONE;
        }

        boolean standsWith(int c, Set<Integer> more, Land land) {
            Filing filing = filings.get(claims.get(c).filing);
            for (Set<Integer> version : versions(c)) {
                Set<Integer> set = new TreeSet<>(version);
                set.addAll(more);
                if (taken(set, filing, land) != NONE || easy(set, filing, land) != NONE) {
                    return false;
                }
            }
            return true;
        }

        boolean inForce(Filing filing, int land, int day) {
            return filing.day + 540 <= day && filing.paid.containsKey(land) && day <= filing.paid.get(land)
                && day < filing.day + lands.get(land).get("term");
        }

        boolean fallsUnder(Set<Integer> set, Product product, int c, int land, int day) {
            Filing filing = filings.get(claims.get(c).filing);
            return product.lands.contains(land) && product.day <= day && inForce(filing, land, day)
                && versions(c).stream().anyMatch(withKinds(set)::containsAll)
                && standsWith(c, Set.of(), lands.get(land));
        }

        /** All sets of some of the first few, the fewest first, of like ones the least number first. */
        static List<Integer> subsets(Set<Integer> of, int first) {
            int bits = bitsOf(new TreeSet<>(of.stream().sorted().limit(first).toList()));
            List<Integer> all = new ArrayList<>();
            for (int sub = bits; ; sub = sub - 1 & bits) {
                all.add(sub);
                if (sub == 0) {
                    break;
                }
            }
            all.sort((a, b) -> Integer.bitCount(a) != Integer.bitCount(b)
                ? Integer.compare(Integer.bitCount(a), Integer.bitCount(b)) : Integer.compare(a, b));
            return all;
        }

        // ---- texts: tokens first, then a table of what may follow

        static List<Token> tokens(String text) {
            List<Token> all = new ArrayList<>();
            java.util.regex.Matcher m = java.util.regex.Pattern.compile("([a-z]+)|([0-9]+)|( +)|([\\x00-\\xff])").matcher(text);
            while (m.find()) {
                if (m.group(3) == null) {
                    all.add(new Token(m.group(1) != null ? 'w' : m.group(2) != null ? 'n' : 's', m.group(), m.start()));
                }
            }
            all.add(new Token('e', "", text.length()));
            return all;
        }

        /** The claims are told one by one, and taken back if there is a fault. */
        Faulted readClaims(int filing, List<Token> tokens) {
            int base = claims.size();
            String state = "start";
            Claim claim = null;
            for (Token t : tokens) {
                boolean number = t.type == 'n';
                boolean big = number && t.word.length() > 2;
                boolean end = t.word.equals(";");
                switch (state) {
                    case "start" -> {
                        if (t.type == 'e') {
                            return null;
                        }
                        if (!t.word.equals("claim")) {
                            return new Faulted(1, t.at);
                        }
                        if (claims.size() == 40) {
                            return new Faulted(6, t.at);
                        }
                        claim = new Claim();
                        claim.filing = filing;
                        state = "feature";
                    }
                    case "feature", "features" -> {
                        if (number) {
                            if (big || Integer.parseInt(t.word) > 29) {
                                return new Faulted(2, t.at);
                            }
                            if (!claim.own.add(Integer.parseInt(t.word))) {
                                return new Faulted(3, t.at);
                            }
                            state = "features";
                        } else if (state.equals("features") && t.word.equals("of")) {
                            state = "parent";
                        } else if (!(state.equals("features") && end)) {
                            return new Faulted(1, t.at);
                        }
                    }
                    case "parent" -> {
                        if (!number) {
                            return new Faulted(1, t.at);
                        }
                        if (big) {
                            return new Faulted(2, t.at);
                        }
                        int parent = base + Integer.parseInt(t.word);
                        if (claim.parents.contains(parent)) {
                            return new Faulted(3, t.at);
                        }
                        if (parent >= claims.size()) {
                            return new Faulted(4, t.at);
                        }
                        claim.parents.add(parent);
                        state = "parents";
                    }
                    default -> {
                        if (t.word.equals(",")) {
                            state = "parent";
                        } else if (!end) {
                            return new Faulted(1, t.at);
                        }
                    }
                }
                if (end) {
                    claims.add(claim);
                    if (versions(claims.size() - 1).size() > 8) {
                        return new Faulted(5, t.at);
                    }
                    state = "start";
                }
            }
            return null;
        }

        Faulted readRules(Land land, List<Token> tokens, int[] clauses) {
            int at = 0;
            while (tokens.get(at).type != 'e') {
                Token name = tokens.get(at);
                if (!List.of("most", "year", "grace", "secret", "known", "term").contains(name.word)) {
                    return new Faulted(1, name.at);
                }
                if (land.told.containsKey(name.word)) {
                    return new Faulted(3, name.at);
                }
                Token value = tokens.get(at + 1);
                if (name.word.equals("secret")) {
                    if (!value.word.equals("yes") && !value.word.equals("no")) {
                        return new Faulted(1, value.at);
                    }
                    land.told.put("secret", value.word.equals("yes") ? 1 : 0);
                } else {
                    if (value.type != 'n') {
                        return new Faulted(1, value.at);
                    }
                    int low = name.word.equals("most") || name.word.equals("term") ? 1 : 0;
                    int high = Map.of("most", 3, "term", 9999, "known", 29).getOrDefault(name.word, 999);
                    if (value.word.length() > 4 || !in(Integer.parseInt(value.word), low, high)) {
                        return new Faulted(2, value.at);
                    }
                    if (name.word.equals("known")) {
                        land.known.add(Integer.parseInt(value.word));
                    } else {
                        land.told.put(name.word, Integer.parseInt(value.word));
                    }
                }
                if (!tokens.get(at + 2).word.equals(";")) {
                    return new Faulted(1, tokens.get(at + 2).at);
                }
                at += 3;
                clauses[0]++;
            }
            return null;
        }

        // ---- the calls

        int kind(int f, int of) {
            if (!in(f, 0, 29) || !in(of, 0, 29)) return UNKNOWN;
            if (kinds.containsKey(f) || withKinds(Set.of(of)).contains(f)) return NOT;
            kinds.put(f, of);
            return withKinds(Set.of(f)).size();
        }

        int with(int set) {
            return features(set) ? bitsOf(withKinds(setOf(set))) : UNKNOWN;
        }

        int near(int a, int b, boolean is) {
            if (!in(a, 0, 4) || !in(b, 0, 4) || a == b) return OUTSIDE;
            int was = near.contains(Set.of(a, b)) ? 1 : 0;
            if (is) near.add(Set.of(a, b)); else near.remove(Set.of(a, b));
            return was;
        }

        int paper(int set, int day, int field) {
            if (!features(set)) return UNKNOWN;
            if (!in(day, 0, 20000) || !in(field, 0, 4)) return OUTSIDE;
            if (papers.size() == 24) return FULL;
            papers.add(new Paper(setOf(set), day, field));
            return papers.size() - 1;
        }

        int filing(int set, int day, int field) {
            if (!features(set)) return UNKNOWN;
            if (!in(day, 0, 20000) || !in(field, 0, 4)) return OUTSIDE;
            if (filings.size() == 8) return FULL;
            Filing filing = new Filing();
            filing.set = setOf(set);
            filing.day = day;
            filing.field = field;
            filings.add(filing);
            return filings.size() - 1;
        }

        boolean isFiling(int filing) {
            return in(filing, 0, filings.size() - 1);
        }

        boolean isClaim(int c) {
            return in(c, 0, claims.size() - 1);
        }

        static boolean isLand(int land) {
            return in(land, 0, 3);
        }

        int elder(int filing, int set, int day) {
            if (!isFiling(filing) || !features(set)) return UNKNOWN;
            if (!in(day, 0, filings.get(filing).day)) return OUTSIDE;
            List<Elder> elders = filings.get(filing).elders;
            if (elders.size() == 3) return FULL;
            elders.add(new Elder(setOf(set), day));
            return elders.size();
        }

        int count(int what) {
            int[] all = {papers.size(), filings.size(), claims.size(), products.size(), text.length(), kinds.size()};
            return in(what, 0, 5) ? all[what] : OUTSIDE;
        }

        int feed(int n, long bytes) {
            if (!in(n, 1, 8)) return OUTSIDE;
            if (text.length() + n > 200) return FULL;
            byte[] all = java.nio.ByteBuffer.allocate(8).putLong(bytes).array();
            for (int i = 8 - n; i < 8; i++) text.append((char) (all[i] & 255));
            return text.length();
        }

        int claims(int filing) {
            if (!isFiling(filing)) return UNKNOWN;
            if (!filings.get(filing).claims.isEmpty()) return NOT;
            int base = claims.size();
            Faulted bad = readClaims(filing, tokens(text.toString()));
            text.setLength(0);
            fault = bad == null ? NONE : bad.at;
            if (bad != null) {
                while (claims.size() > base) claims.remove(claims.size() - 1);
                return -10 - bad.number;
            }
            for (int c = base; c < claims.size(); c++) filings.get(filing).claims.add(c);
            return claims.size() - base;
        }

        int rules(int land) {
            if (!isLand(land)) return UNKNOWN;
            if (text.length() > 120) return NOT;
            Land told = new Land();
            int[] clauses = {0};
            Faulted bad = readRules(told, tokens(text.toString()), clauses);
            text.setLength(0);
            fault = bad == null ? NONE : bad.at;
            if (bad != null) return -10 - bad.number;
            lands.set(land, told);
            return clauses[0];
        }

        int rule(int land, int what) {
            if (!isLand(land)) return UNKNOWN;
            if (!in(what, 0, 5)) return OUTSIDE;
            Land rules = lands.get(land);
            return what == 5 ? bitsOf(rules.known) : rules.get(List.of("most", "year", "grace", "secret", "term").get(what));
        }

        int first(int filing) {
            if (!isFiling(filing)) return UNKNOWN;
            return filings.get(filing).claims.isEmpty() ? NONE : filings.get(filing).claims.get(0);
        }

        boolean isOf(int c, int of) {
            return claims.get(c).parents.stream().anyMatch(p -> p == of || isOf(p, of));
        }

        int claim(int c, int what) {
            if (!isClaim(c)) return UNKNOWN;
            if (!in(what, 0, 4)) return OUTSIDE;
            Claim claim = claims.get(c);
            int hanging = 0;
            for (int d = 0; d < claims.size(); d++) hanging += isOf(d, c) ? 1 : 0;
            return new int[] {claim.filing, bitsOf(claim.own), bitsOf(claim.added), versions(c).size(), hanging}[what];
        }

        int version(int c, int i) {
            if (!isClaim(c)) return UNKNOWN;
            return in(i, 0, versions(c).size() - 1) ? bitsOf(versions(c).get(i)) : NONE;
        }

        int day(int c, int i, int land) {
            if (!isClaim(c) || !isLand(land)) return UNKNOWN;
            if (!in(i, 0, versions(c).size() - 1)) return NONE;
            return versionDay(versions(c).get(i), filings.get(claims.get(c).filing), lands.get(land));
        }

        int does(int c, int i, int land) {
            if (!isClaim(c) || !isLand(land)) return UNKNOWN;
            if (!in(i, 0, versions(c).size() - 1)) return NONE;
            Filing filing = filings.get(claims.get(c).filing);
            if (taken(versions(c).get(i), filing, lands.get(land)) != NONE) return 1;
            return easy(versions(c).get(i), filing, lands.get(land)) != NONE ? 2 : 0;
        }

        int by(int c, int i, int land) {
            int does = does(c, i, land);
            if (does < 0) return does;
            Filing filing = filings.get(claims.get(c).filing);
            Set<Integer> version = versions(c).get(i);
            return does == 1 ? taken(version, filing, lands.get(land))
                : does == 2 ? easy(version, filing, lands.get(land)) : NONE;
        }

        int stands(int c, int land) {
            if (!isClaim(c) || !isLand(land)) return UNKNOWN;
            return standsWith(c, Set.of(), lands.get(land)) ? 1 : 0;
        }

        int wider(int a, int b) {
            if (!isClaim(a) || !isClaim(b)) return UNKNOWN;
            return versions(b).stream().allMatch(vb -> versions(a).stream().anyMatch(withKinds(vb)::containsAll)) ? 1 : 0;
        }

        int narrow(int c, int set) {
            if (!isClaim(c) || !features(set)) return UNKNOWN;
            Claim claim = claims.get(c);
            if (!withKinds(filings.get(claim.filing).set).containsAll(setOf(set))) return NOT;
            Set<Integer> before = new TreeSet<>(claim.added);
            claim.added.addAll(setOf(set));
            for (int d = 0; d < claims.size(); d++) {
                if (versions(d).size() > 8) {
                    claim.added = before;
                    return FULL;
                }
            }
            return claim.added.size();
        }

        int toNarrow(int c, int land) {
            if (!isClaim(c) || !isLand(land)) return UNKNOWN;
            Set<Integer> able = new TreeSet<>(filings.get(claims.get(c).filing).set);
            able.removeIf(f -> versions(c).stream().allMatch(v -> v.contains(f)));
            for (int sub : subsets(able, 8)) {
                if (standsWith(c, setOf(sub), lands.get(land))) return sub;
            }
            return NONE;
        }

        int pay(int filing, int land, int day) {
            if (!isFiling(filing) || !isLand(land)) return UNKNOWN;
            if (!in(day, 0, 20000)) return OUTSIDE;
            Integer was = filings.get(filing).paid.put(land, day);
            return was == null ? NONE : was;
        }

        int force(int filing, int land, int day) {
            if (!isFiling(filing) || !isLand(land)) return UNKNOWN;
            if (!in(day, 0, 20000)) return OUTSIDE;
            return inForce(filings.get(filing), land, day) ? 1 : 0;
        }

        int product(int set, int landSet, int day) {
            if (!features(set) || !setOf(landSet).stream().allMatch(k -> k < 4)) return UNKNOWN;
            if (!in(day, 0, 20000)) return OUTSIDE;
            if (products.size() == 12) return FULL;
            products.add(new Product(setOf(set), setOf(landSet), day));
            return products.size() - 1;
        }

        int falls(int p, int land, int day, int what) {
            if (!in(p, 0, products.size() - 1) || !isLand(land)) return UNKNOWN;
            if (!in(day, 0, 20000) || !in(what, 0, 1)) return OUTSIDE;
            List<Integer> found = new ArrayList<>();
            for (int c = 0; c < claims.size(); c++) {
                if (fallsUnder(products.get(p).set, products.get(p), c, land, day)) found.add(c);
            }
            return what == 1 ? found.size() : found.isEmpty() ? NONE : found.get(0);
        }

        int around(int p, int land, int day) {
            if (!in(p, 0, products.size() - 1) || !isLand(land)) return UNKNOWN;
            if (!in(day, 0, 20000)) return OUTSIDE;
            Product product = products.get(p);
            List<Set<Integer>> bad = new ArrayList<>();
            if (product.lands.contains(land) && product.day <= day) {
                for (int c = 0; c < claims.size(); c++) {
                    if (inForce(filings.get(claims.get(c).filing), land, day)
                        && standsWith(c, Set.of(), lands.get(land))) {
                        bad.addAll(versions(c));
                    }
                }
            }
            for (int sub : subsets(product.set, 12)) {
                Set<Integer> rest = new TreeSet<>(product.set);
                rest.removeAll(setOf(sub));
                if (bad.stream().noneMatch(withKinds(rest)::containsAll)) return sub;
            }
            return NONE;
        }

        /** Day by day, but for the parts that no day changes. */
        int since(int p, int c, int land) {
            if (!in(p, 0, products.size() - 1) || !isClaim(c) || !isLand(land)) return UNKNOWN;
            Product product = products.get(p);
            if (!versions(c).stream().anyMatch(withKinds(product.set)::containsAll)) return NONE;
            if (!product.lands.contains(land) || !standsWith(c, Set.of(), lands.get(land))) return NONE;
            for (int day = product.day; day <= 20000; day++) {
                if (inForce(filings.get(claims.get(c).filing), land, day)) return day;
            }
            return NONE;
        }
    }

    // ---- random runs

    private static Random random;
    private static final Map<String, Integer> SEEN = new TreeMap<>();

    /** Counts how an answer came out, so that a kind of answer that never comes is noticed. */
    private static void saw(String what) {
        SEEN.merge(what, 1, Integer::sum);
    }

    private static int below(int n) {
        return random.nextInt(n);
    }

    private static boolean chance(int of100) {
        return below(100) < of100;
    }

    /** A number of a thing, now and then of one that there is not. */
    private static int some(int count) {
        if (count == 0 || chance(4)) {
            return new int[] {-1, count, Integer.MIN_VALUE, Integer.MAX_VALUE, count + 1}[below(5)];
        }
        return below(count);
    }

    private static int someSet(int features, int of100) {
        if (chance(2)) {
            return new int[] {-1, 1 << 30, Integer.MIN_VALUE, 1 << 31 | 1, (1 << 30) - 1}[below(5)];
        }
        int set = 0;
        for (int f = 0; f < features; f++) {
            if (chance(of100)) {
                set |= 1 << f;
            }
        }
        return chance(5) ? set << below(30 - features + 1) : set;
    }

    private static int someDay(int around) {
        if (chance(3)) {
            return new int[] {-1, 20001, 0, 20000, Integer.MIN_VALUE, Integer.MAX_VALUE}[below(6)];
        }
        if (chance(20)) {
            return below(20001);
        }
        int[] steps = {0, 1, -1, 540, 539, 541, -540, -539, -541, 365, -365, -366, 10, -10, -100, 700, 1000};
        return Math.max(0, Math.min(20000, around + steps[below(steps.length)] + (chance(30) ? below(60) - 30 : 0)));
    }

    private static String blanks() {
        return chance(15) ? " ".repeat(below(3)) : "";
    }

    private static String claimText(int features) {
        StringBuilder text = new StringBuilder();
        int clauses = below(chance(20) ? 26 : 9);
        for (int k = 0; k < clauses; k++) {
            StringBuilder clause = new StringBuilder(blanks() + "claim" + (chance(50) ? " " : blanks()));
            int own = 1 + (chance(40) ? below(3) : 0);
            for (int i = 0; i < own; i++) {
                clause.append(i > 0 ? " " : "").append(blanks()).append(chance(5) ? "0" : "").append(below(features));
            }
            if (k > 0 && chance(60)) {
                clause.append(blanks()).append("of").append(blanks());
                int parents = 1 + (chance(60) ? below(Math.min(k, 9)) : 0);
                List<Integer> all = new ArrayList<>();
                for (int i = 0; i < k; i++) {
                    all.add(i);
                }
                java.util.Collections.shuffle(all, random);
                for (int i = 0; i < Math.min(parents, k); i++) {
                    clause.append(i > 0 ? "," : "").append(blanks()).append(all.get(i)).append(blanks());
                }
            }
            clause.append(blanks()).append(";");
            if (text.length() + clause.length() <= 200) {
                text.append(clause);
            }
        }
        return spoilt(text);
    }

    private static String ruleText(int features) {
        StringBuilder text = new StringBuilder();
        List<String> names = new ArrayList<>(List.of("most", "year", "grace", "secret", "term", "known", "known", "known"));
        java.util.Collections.shuffle(names, random);
        int clauses = below(7);
        for (int k = 0; k < clauses; k++) {
            String name = names.get(k);
            String value = switch (name) {
                case "most" -> "" + (1 + below(3));
                case "year" -> "" + new int[] {0, 10, 100, 365, 366, 999, 540}[below(7)];
                case "grace" -> "" + new int[] {0, 1, 9, 10, 30, 365, 999}[below(7)];
                case "secret" -> chance(60) ? "no" : "yes";
                case "term" -> "" + new int[] {1, 540, 541, 700, 1000, 9999}[below(6)];
                default -> "" + below(features);
            };
            text.append(blanks()).append(name).append(chance(70) ? " " : blanks()).append(value).append(blanks()).append(";");
        }
        return spoilt(text);
    }

    /** Now and then a byte goes, comes, or changes. */
    private static String spoilt(StringBuilder text) {
        int times = chance(35) ? 1 + below(2) : 0;
        String signs = " ;,0123456789claimofyesn?Z\t" + (char) 0 + (char) 255 + (char) 176;
        for (int k = 0; k < times && text.length() > 0; k++) {
            int at = below(text.length());
            char sign = signs.charAt(below(signs.length()));
            switch (below(4)) {
                case 0 -> text.deleteCharAt(at);
                case 1 -> text.insert(at, sign);
                case 2 -> text.setCharAt(at, sign);
                default -> text.setLength(at);
            }
        }
        return text.length() > 200 ? text.substring(0, 200) : text.toString();
    }

    private static String told = "";
    private static int paperless = 0;

    private static void check(String call, int got, int want, List<String> log) {
        log.add(call + " = " + got);
        if (got != want) {
            System.out.println("ModelTest: " + told + ": after");
            log.forEach(row -> System.out.println("  " + row));
            System.out.println("due is " + want);
            System.exit(1);
        }
    }

    private static void feedBoth(ClaimTrees x, Model m, String text, List<String> log) {
        for (int at = 0; at < text.length(); ) {
            int n = Math.min(8, text.length() - at);
            if (chance(10)) {
                n = 1 + below(n);
            }
            long bytes = chance(50) ? 0 : random.nextLong();
            for (int i = 0; i < n; i++) {
                bytes = bytes << 8 | text.charAt(at + i);
            }
            check("feed(" + n + ", " + bytes + "L)", x.feed(n, bytes), m.feed(n, bytes), log);
            at += n;
        }
    }

    private static void tellSomething(ClaimTrees x, Model m, int features, int around, List<String> log) {
        int a = someSet(features, 20 + below(60));
        int day = someDay(around);
        switch (below(14)) {
            case 0 -> {
                int f = chance(95) ? below(features) : some(30);
                int of = chance(95) ? below(features) : some(30);
                check("kind(" + f + ", " + of + ")", x.kind(f, of), m.kind(f, of), log);
            }
            case 1 -> {
                int f = some(5);
                int g = some(5);
                boolean is = chance(75);
                check("near(" + f + ", " + g + ", " + is + ")", x.near(f, g, is), m.near(f, g, is), log);
            }
            case 2, 3, 4 -> {
                if (chance(paperless)) {
                    return;
                }
                int field = chance(60) ? 0 : some(5);
                int set = chance(60) ? someSet(features, 25) : a;
                int before = chance(70) ? someDay(around - 100) : day;
                check("paper(" + set + ", " + before + ", " + field + ")", x.paper(set, before, field), m.paper(set, before, field), log);
            }
            case 5 -> {
                int field = chance(70) ? 0 : some(5);
                check("filing(" + a + ", " + day + ", " + field + ")", x.filing(a, day, field), m.filing(a, day, field), log);
            }
            case 6 -> {
                int filing = some(m.filings.size());
                int before = m.isFiling(filing) && chance(80) ? someDay(m.filings.get(filing).day - 20) : day;
                check("elder(" + filing + ", " + a + ", " + before + ")", x.elder(filing, a, before), m.elder(filing, a, before), log);
            }
            case 7, 8 -> {
                feedBoth(x, m, claimText(features), log);
                int filing = some(m.filings.size());
                for (int f = 0; f < m.filings.size() && chance(80); f++) {
                    if (m.filings.get(f).claims.isEmpty()) {
                        filing = f;
                        break;
                    }
                }
                int claims = x.claims(filing);
                saw("claims " + (claims > 0 ? "told" : claims));
                check("claims(" + filing + ")", claims, m.claims(filing), log);
            }
            case 9 -> {
                feedBoth(x, m, ruleText(features), log);
                int land = some(4);
                int rules = x.rules(land);
                saw("rules " + (rules > 0 ? "told" : rules));
                check("rules(" + land + ")", rules, m.rules(land), log);
            }
            case 10 -> {
                int c = some(m.claims.size());
                int set = 0;
                if (m.isClaim(c)) {
                    set = Model.bitsOf(m.filings.get(m.claims.get(c).filing).set) & someSet(features, 40);
                }
                set = chance(80) ? set : a;
                int narrow = x.narrow(c, set);
                saw("narrow " + (narrow >= 0 ? "done" : narrow));
                check("narrow(" + c + ", " + set + ")", narrow, m.narrow(c, set), log);
            }
            case 11, 12 -> {
                int filing = some(m.filings.size());
                int land = some(4);
                int until = chance(60) ? someDay(around + 3000) : day;
                check("pay(" + filing + ", " + land + ", " + until + ")", x.pay(filing, land, until), m.pay(filing, land, until), log);
            }
            default -> {
                int lands = chance(90) ? below(16) : some(16);
                int set = chance(30) ? someSet(20, 80) : someSet(features, 70);
                check("product(" + set + ", " + lands + ", " + day + ")", x.product(set, lands, day), m.product(set, lands, day), log);
            }
        }
    }

    private static void askSomething(ClaimTrees x, Model m, int features, int around, List<String> log) {
        int c = some(m.claims.size());
        int land = some(4);
        int filing = some(m.filings.size());
        int p = some(m.products.size());
        int i = chance(90) && m.isClaim(c) ? below(m.versions(c).size()) : some(9);
        int day = someDay(around + (chance(50) ? 700 : 0));
        switch (below(20)) {
            case 0 -> {
                int set = someSet(features, 20);
                check("with(" + set + ")", x.with(set), m.with(set), log);
            }
            case 1 -> {
                int what = some(6);
                check("count(" + what + ")", x.count(what), m.count(what), log);
            }
            case 2 -> check("fault()", x.fault(), m.fault, log);
            case 3 -> {
                int what = some(6);
                check("rule(" + land + ", " + what + ")", x.rule(land, what), m.rule(land, what), log);
            }
            case 4 -> check("first(" + filing + ")", x.first(filing), m.first(filing), log);
            case 5 -> {
                int what = some(5);
                check("claim(" + c + ", " + what + ")", x.claim(c, what), m.claim(c, what), log);
            }
            case 6 -> check("version(" + c + ", " + i + ")", x.version(c, i), m.version(c, i), log);
            case 7 -> check("day(" + c + ", " + i + ", " + land + ")", x.day(c, i, land), m.day(c, i, land), log);
            case 8, 9 -> check("does(" + c + ", " + i + ", " + land + ")", x.does(c, i, land), m.does(c, i, land), log);
            case 10, 11 -> {
                int by = x.by(c, i, land);
                saw(by < 0 ? "by none" : by >= 100 ? "by a filing" : "by papers");
                check("by(" + c + ", " + i + ", " + land + ")", by, m.by(c, i, land), log);
            }
            case 12 -> {
                int stands = x.stands(c, land);
                saw(stands == 1 ? "stands" : stands == 0 ? "stands not" : "stands: refused");
                check("stands(" + c + ", " + land + ")", stands, m.stands(c, land), log);
            }
            case 13 -> {
                int b = some(m.claims.size());
                check("wider(" + c + ", " + b + ")", x.wider(c, b), m.wider(c, b), log);
            }
            case 14 -> {
                int set = x.toNarrow(c, land);
                saw("toNarrow " + (set < 0 ? set : Math.min(Integer.bitCount(set), 3)));
                check("toNarrow(" + c + ", " + land + ")", set, m.toNarrow(c, land), log);
            }
            case 15 -> check("force(" + filing + ", " + land + ", " + day + ")", x.force(filing, land, day), m.force(filing, land, day), log);
            case 16, 17 -> {
                int what = some(2);
                int falls = x.falls(p, land, day, what);
                saw(falls > 0 ? "falls" : "falls under none, or claim 0, or refused");
                check("falls(" + p + ", " + land + ", " + day + ", " + what + ")", falls, m.falls(p, land, day, what), log);
            }
            case 18 -> {
                int around1 = x.around(p, land, day);
                saw("around " + (around1 < 0 ? around1 : Math.min(Integer.bitCount(around1), 3)));
                check("around(" + p + ", " + land + ", " + day + ")", around1, m.around(p, land, day), log);
            }
            default -> {
                int since = x.since(p, c, land);
                saw(since >= 0 ? "since a day" : since == NONE ? "since never" : "since: refused");
                check("since(" + p + ", " + c + ", " + land + ")", since, m.since(p, c, land), log);
            }
        }
    }

    /** Claims that stand, fees that are paid and products that are there: what seldom comes by chance alone. */
    private static void openMarket(ClaimTrees x, Model m, int features, int around, List<String> log) {
        for (int land = 0; land < 4; land++) {
            feedBoth(x, m, chance(80) ? "secret no;" : "secret no;most 1;", log);
            check("rules(" + land + ")", x.rules(land), m.rules(land), log);
        }
        for (int f = 0; f < m.filings.size(); f++) {
            feedBoth(x, m, claimText(features), log);
            check("claims(" + f + ")", x.claims(f), m.claims(f), log);
            int until = Math.min(20000, around + 1000 + below(3000));
            for (int land = 0; land < 4; land++) {
                check("pay(" + f + ", " + land + ", " + until + ")", x.pay(f, land, until), m.pay(f, land, until), log);
            }
        }
        for (int n = 0; n < 6; n++) {
            int set = n == 0 ? (1 << 20) - 1 : someSet(features, 30 + 10 * n);
            int day = someDay(around + 500);
            check("product(" + set + ", 15, " + day + ")", x.product(set, 15, day), m.product(set, 15, day), log);
        }
    }

    private static void run(long seed) {
        random = new Random(seed);
        told = "seed " + seed;
        ClaimTrees x = new ClaimTrees();
        Model m = new Model();
        List<String> log = new ArrayList<>();
        int features = 4 + below(13);
        int around = chance(80) ? 1000 + below(3000) : below(20001);
        int telling = 20 + below(60);
        for (int n = 0; n < 2 + below(3); n++) {
            int set = someSet(features, 85);
            int day = someDay(around);
            check("filing(" + set + ", " + day + ", 0)", x.filing(set, day, 0), m.filing(set, day, 0), log);
        }
        paperless = 0;
        if (chance(50)) {
            paperless = 80;
            openMarket(x, m, features, around, log);
        }
        while (log.size() < 480) {
            if (chance(telling * (500 - log.size()) / 500)) {
                tellSomething(x, m, features, around, log);
            } else {
                askSomething(x, m, features, around, log);
            }
        }
    }

    public static void main(String[] args) {
        int from = args.length > 0 ? Integer.parseInt(args[0]) : 0;
        int runs = args.length > 1 ? Integer.parseInt(args[1]) : 1500;
        for (int k = from; k < from + runs; k++) {
            run(k);
        }
        System.out.println("ModelTest: " + runs + " runs, each answer as the model's");
        if (args.length > 0) {
            SEEN.forEach((what, times) -> System.out.println("  " + what + ": " + times));
        }
    }
}
