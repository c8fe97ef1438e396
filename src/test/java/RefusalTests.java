import java.util.ArrayList;
import java.util.List;
import java.util.function.Consumer;
import java.util.function.Supplier;
import java.util.function.ToIntFunction;

/**
 * Each refusal of each call: that it is answered, that of several the first in the document's order is,
 * and that what is refused changes nothing. For the last, two objects are made alike, one of them is asked
 * what it refuses, and then both must answer alike, whatever they are asked.
 */
public final class RefusalTests {
    private static final int UNKNOWN = -1001, OUTSIDE = -1002, NOT = -1003, FULL = -1004;
    private static final int LOW = Integer.MIN_VALUE, HIGH = Integer.MAX_VALUE, ALL = (1 << 30) - 1;
    private static final int[] WRONG_BITS = {1 << 30, LOW, -1, 1 << 30 | 1};
    private static final int[] WRONG_DAYS = {-1, 20001, LOW, HIGH};
    private static final int[] WRONG_FIELDS = {-1, 5, LOW, HIGH};
    private static final int[] WRONG_LANDS = {-1, 4, LOW, HIGH};
    private static int wrong = 0, refusals = 0, asked = 0;

    // ---- objects to ask

    private static void feedText(ClaimTrees x, String text) {
        for (int at = 0; at < text.length(); at += 8) {
            int n = Math.min(8, text.length() - at);
            long bytes = 0;
            for (int i = 0; i < n; i++) {
                bytes = bytes << 8 | text.charAt(at + i);
            }
            x.feed(n, bytes);
        }
    }

    private static void tellClaims(ClaimTrees x, int filing, String text) {
        feedText(x, text);
        if (x.claims(filing) <= 0) {
            tellWrong("the test's own claims have a fault: " + text);
        }
    }

    private static void tellRules(ClaimTrees x, int land, String text) {
        feedText(x, text);
        if (x.rules(land) <= 0) {
            tellWrong("the test's own rules have a fault: " + text);
        }
    }

    private static ClaimTrees empty() {
        return new ClaimTrees();
    }

    /** Some of everything, room for more; the last of three filings has no claims; the latest fault is at byte 2. */
    private static ClaimTrees quiet() {
        ClaimTrees x = new ClaimTrees();
        x.kind(12, 3);
        x.kind(13, 12);
        x.near(0, 1, true);
        x.filing(0xffff, 1000, 0);
        x.filing(0xff, 1100, 1);
        x.filing(0x1f, 1200, 2);
        x.elder(0, 0x27, 900);
        x.elder(0, 0x3, 700);
        tellClaims(x, 0, "claim 0;claim 1;claim 2 of 0,1;claim 3 of 2;claim 4 5;");
        tellClaims(x, 1, "claim 0 1;claim 2 of 0;");
        x.narrow(2, 1 << 6);
        x.paper(1 << 13 | 1, 650, 0);
        x.paper(2, 850, 1);
        x.paper(4 | 64, 850, 0);
        tellRules(x, 1, "most 3;grace 100;known 4;");
        x.pay(0, 0, 5000);
        x.pay(1, 1, 6000);
        x.product(0xff, 3, 1500);
        x.product(1 << 13 | 0x31, 15, 0);
        feedText(x, "  x");
        x.claims(2);
        return x;
    }

    /** The same with a text that is not read yet. */
    private static ClaimTrees some() {
        ClaimTrees x = quiet();
        feedText(x, "claim 2;claim 3 of 0;");
        return x;
    }

    /** The same with a text that is too long for rules by a byte. */
    private static ClaimTrees withLongText() {
        ClaimTrees x = quiet();
        feedText(x, "most 3;" + " ".repeat(114));
        return x;
    }

    /** The same with a text that is neither claims nor rules. */
    private static ClaimTrees withFaultyText() {
        ClaimTrees x = quiet();
        feedText(x, "claim 1 1 30 x" + " ".repeat(107));
        return x;
    }

    /** No room for anything more. */
    private static ClaimTrees full() {
        ClaimTrees x = new ClaimTrees();
        x.kind(20, 21);
        x.kind(21, 4);
        x.near(3, 4, true);
        for (int f = 0; f < 8; f++) {
            x.filing(0xfff, 1000 + f, f % 5);
            for (int e = 0; e < 3; e++) {
                x.elder(f, 3 << e, 900 - e);
            }
        }
        for (int f = 0; f < 5; f++) {
            tellClaims(x, f, "claim0;claim1;claim2;claim3;claim4;claim5 of 0,1;claim6 of 5;claim 7;");
        }
        for (int p = 0; p < 24; p++) {
            x.paper(1 << p % 12, 800 + p, p % 5);
        }
        for (int p = 0; p < 12; p++) {
            x.product(0xff << p, 15, 1600 + p);
        }
        tellRules(x, 2, "most 1;secret no;");
        x.pay(4, 3, 7000);
        feedText(x, "claim 1;".repeat(25));
        return x;
    }

    /** Claims 8 and 10 would have nine versions, if claim 8 were no longer like claim 7. */
    private static ClaimTrees withEight() {
        ClaimTrees x = new ClaimTrees();
        x.filing(0xfffff, 1000, 0);
        x.filing(0xfffff, 1000, 0);
        tellClaims(x, 0, "claim0;claim1;claim2;claim3;claim4;claim5;claim6;claim7;claim7;claim11 of 7,8;"
            + "claim10 of 0,1,2,3,4,5,6,9;claim12 of 10;claim13;");
        tellClaims(x, 1, "claim 0;claim 1 of 0;");
        x.narrow(12, 1 << 15);
        x.paper(0xff, 900, 0);
        x.paper(0xff00, 900, 0);
        return x;
    }

    // ---- how two objects are told apart

    private static final List<Consumer<Probe>> PROBES = List.of(
        RefusalTests::countsAndRules, RefusalTests::claimsAndKinds, RefusalTests::versions, RefusalTests::days,
        RefusalTests::doing, RefusalTests::standing, RefusalTests::falling, RefusalTests::nearAndPaid,
        RefusalTests::textAsClaims, RefusalTests::textAsRules, RefusalTests::roomLeft, RefusalTests::whatNarrows);

    /** What an object answers, one answer behind the other. */
    private static final class Probe {
        final ClaimTrees x;
        final List<Integer> answers = new ArrayList<>();

        Probe(ClaimTrees x) {
            this.x = x;
        }

        void add(int answer) {
            answers.add(answer);
        }
    }

    private static void countsAndRules(Probe p) {
        for (int what = 0; what < 6; what++) {
            p.add(p.x.count(what));
            for (int land = 0; land < 4; land++) {
                p.add(p.x.rule(land, what));
            }
        }
        p.add(p.x.fault());
        for (int f = 0; f < 8; f++) {
            p.add(p.x.first(f));
        }
    }

    private static void claimsAndKinds(Probe p) {
        for (int c = 0; c < 40; c++) {
            for (int what = 0; what < 5; what++) {
                p.add(p.x.claim(c, what));
            }
        }
        for (int f = 0; f < 30; f++) {
            p.add(p.x.with(1 << f));
        }
    }

    private static void versions(Probe p) {
        int count = p.x.count(2);
        for (int c = 0; c < count; c++) {
            for (int i = 0; i < p.x.claim(c, 3); i++) {
                p.add(p.x.version(c, i));
            }
        }
    }

    private static void days(Probe p) {
        int count = p.x.count(2);
        for (int c = 0; c < count; c++) {
            for (int i = 0; i < 2; i++) {
                p.add(p.x.day(c, i, 0));
                p.add(p.x.day(c, i, 1));
            }
        }
    }

    private static void doing(Probe p) {
        int count = p.x.count(2);
        for (int c = 0; c < count; c++) {
            for (int land = 0; land < 3; land++) {
                p.add(p.x.does(c, 0, land));
                p.add(p.x.by(c, 0, land));
            }
        }
    }

    private static void standing(Probe p) {
        int count = p.x.count(2);
        for (int c = 0; c < count; c++) {
            p.add(p.x.stands(c, 0));
            p.add(p.x.stands(c, 1));
            p.add(p.x.toNarrow(c, 0));
            p.add(p.x.toNarrow(c, 3));
            p.add(p.x.wider(c, 0));
            p.add(p.x.wider(0, c));
        }
    }

    private static void falling(Probe p) {
        int count = p.x.count(3);
        for (int product = 0; product < count; product++) {
            for (int land = 0; land < 4; land++) {
                p.add(p.x.falls(product, land, 2000, 0));
                p.add(p.x.falls(product, land, 5001, 1));
                p.add(p.x.around(product, land, 2000));
                p.add(p.x.since(product, 0, land));
            }
        }
        for (int f = 0; f < 8; f++) {
            for (int land = 0; land < 4; land++) {
                p.add(p.x.force(f, land, 2000));
            }
        }
    }

    private static void nearAndPaid(Probe p) {
        for (int a = 0; a < 5; a++) {
            for (int b = 0; b < 5; b++) {
                p.add(p.x.near(a, b, a < b));
            }
        }
        for (int f = 0; f < 8; f++) {
            for (int land = 0; land < 4; land++) {
                p.add(p.x.pay(f, land, 9000));
            }
        }
        for (int f = 0; f < 30; f++) {
            p.add(p.x.kind(f, 29 - f));
        }
    }

    private static void textAsClaims(Probe p) {
        for (int f = 7; f >= 0; f--) {
            p.add(p.x.claims(f));
        }
        p.add(p.x.fault());
        feedText(p.x, "claim 1;claim 2;claim 3;claim 4;claim 5 of 0;");
        for (int f = 7; f >= 0; f--) {
            p.add(p.x.claims(f));
        }
        claimsAndKinds(p);
    }

    private static void textAsRules(Probe p) {
        p.add(p.x.rules(3));
        countsAndRules(p);
        feedText(p.x, ";");
        p.add(p.x.rules(0));
        p.add(p.x.fault());
    }

    private static void roomLeft(Probe p) {
        for (int n = 0; n < 25; n++) {
            p.add(p.x.paper(n, 700 + n, n % 5));
        }
        for (int n = 0; n < 9; n++) {
            p.add(p.x.filing(ALL, 600 + n, n % 5));
        }
        for (int f = 0; f < 8; f++) {
            for (int n = 0; n < 4; n++) {
                p.add(p.x.elder(f, 15, 500));
            }
        }
        for (int n = 0; n < 13; n++) {
            p.add(p.x.product(n, 15, 5));
        }
        for (int n = 0; n < 26; n++) {
            p.add(p.x.feed(8, n));
        }
        doing(p);
    }

    private static void whatNarrows(Probe p) {
        int count = p.x.count(2);
        for (int c = count - 1; c >= 0; c--) {
            p.add(p.x.narrow(c, 1 << c % 12));
            p.add(p.x.claim(c, 2));
        }
        versions(p);
    }

    private static void tellWrong(String what) {
        wrong++;
        System.out.println(what);
    }

    private static List<Integer> answersOf(ClaimTrees x, Consumer<Probe> probe) {
        Probe p = new Probe(x);
        probe.accept(p);
        return p.answers;
    }

    /** The call answers what is due, and after it the object is as one that was not asked. */
    private static void refused(String name, Supplier<ClaimTrees> world, ToIntFunction<ClaimTrees> call, int due) {
        refusals++;
        for (int i = 0; i < PROBES.size(); i++) {
            ClaimTrees x = world.get();
            int got = call.applyAsInt(x);
            if (got != due) {
                tellWrong(name + " answered " + got + ", due is " + due);
                return;
            }
            List<Integer> answers = answersOf(x, PROBES.get(i));
            asked += answers.size();
            if (!answers.equals(answersOf(world.get(), PROBES.get(i)))) {
                tellWrong(name + " was refused, and changed what probe " + i + " answers");
            }
        }
    }

    // ---- features, papers, filings

    private static void kind() {
        for (int f : new int[] {-1, 30, LOW, HIGH}) {
            refused("kind of no feature", RefusalTests::some, x -> x.kind(f, 1), UNKNOWN);
            refused("no kind", RefusalTests::some, x -> x.kind(1, f), UNKNOWN);
            refused("no kind, of one that has one", RefusalTests::some, x -> x.kind(12, f), UNKNOWN);
            refused("neither, one twice", RefusalTests::some, x -> x.kind(f, f), UNKNOWN);
        }
        refused("it has one", RefusalTests::some, x -> x.kind(12, 5), NOT);
        refused("it has this one", RefusalTests::some, x -> x.kind(12, 3), NOT);
        refused("it would come round at once", RefusalTests::some, x -> x.kind(5, 5), NOT);
        refused("it would come round", RefusalTests::some, x -> x.kind(3, 12), NOT);
        refused("it would come round by two", RefusalTests::some, x -> x.kind(3, 13), NOT);
        refused("it has one, and would come round", RefusalTests::some, x -> x.kind(12, 13), NOT);
        refused("a new object's feature of itself", RefusalTests::empty, x -> x.kind(0, 0), NOT);
    }

    private static void withAndNear() {
        for (int bits : WRONG_BITS) {
            refused("with", RefusalTests::some, x -> x.with(bits), UNKNOWN);
        }
        for (int field : WRONG_FIELDS) {
            refused("near(field, 0)", RefusalTests::some, x -> x.near(field, 0, true), OUTSIDE);
            refused("near(0, field)", RefusalTests::some, x -> x.near(0, field, true), OUTSIDE);
            refused("near of one twice that is not", RefusalTests::some, x -> x.near(field, field, true), OUTSIDE);
        }
        for (int field = 0; field < 5; field++) {
            int one = field;
            refused("near of one twice", RefusalTests::some, x -> x.near(one, one, true), OUTSIDE);
            refused("not near of one twice", RefusalTests::some, x -> x.near(one, one, false), OUTSIDE);
        }
    }

    private static void papersAndFilings() {
        for (int bits : WRONG_BITS) {
            refused("paper's bits", RefusalTests::some, x -> x.paper(bits, 1, 1), UNKNOWN);
            refused("paper's bits, no room", RefusalTests::full, x -> x.paper(bits, 1, 1), UNKNOWN);
            refused("paper's bits, day, field, no room", RefusalTests::full, x -> x.paper(bits, -1, 5), UNKNOWN);
            refused("filing's bits", RefusalTests::some, x -> x.filing(bits, 1, 1), UNKNOWN);
            refused("filing's bits, no room", RefusalTests::full, x -> x.filing(bits, 1, 1), UNKNOWN);
            refused("filing's bits, day, field, no room", RefusalTests::full, x -> x.filing(bits, -1, 5), UNKNOWN);
        }
        for (int day : WRONG_DAYS) {
            refused("paper's day", RefusalTests::some, x -> x.paper(1, day, 1), OUTSIDE);
            refused("paper's day, no room", RefusalTests::full, x -> x.paper(1, day, 1), OUTSIDE);
            refused("filing's day", RefusalTests::some, x -> x.filing(1, day, 1), OUTSIDE);
            refused("filing's day, no room", RefusalTests::full, x -> x.filing(1, day, 1), OUTSIDE);
        }
        for (int field : WRONG_FIELDS) {
            refused("paper's field", RefusalTests::some, x -> x.paper(1, 1, field), OUTSIDE);
            refused("paper's field, no room", RefusalTests::full, x -> x.paper(1, 1, field), OUTSIDE);
            refused("filing's field", RefusalTests::some, x -> x.filing(1, 1, field), OUTSIDE);
            refused("filing's field, no room", RefusalTests::full, x -> x.filing(1, 1, field), OUTSIDE);
        }
        refused("the 25th paper", RefusalTests::full, x -> x.paper(ALL, 0, 0), FULL);
        refused("the 9th filing", RefusalTests::full, x -> x.filing(ALL, 0, 0), FULL);
    }

    private static void elders() {
        for (int f : new int[] {-1, 3, 8, LOW, HIGH}) {
            refused("elder of no filing", RefusalTests::some, x -> x.elder(f, 1, 1), UNKNOWN);
            refused("elder of no filing, bits, day", RefusalTests::some, x -> x.elder(f, -1, -1), UNKNOWN);
            refused("elder of no filing, day", RefusalTests::some, x -> x.elder(f, 1, 20001), UNKNOWN);
        }
        refused("elder where there are no filings", RefusalTests::empty, x -> x.elder(0, 1, 1), UNKNOWN);
        refused("elder of the ninth, no room", RefusalTests::full, x -> x.elder(8, 1, 1), UNKNOWN);
        for (int bits : WRONG_BITS) {
            refused("elder's bits", RefusalTests::some, x -> x.elder(0, bits, 1), UNKNOWN);
            refused("elder's bits, day", RefusalTests::some, x -> x.elder(0, bits, 1001), UNKNOWN);
            refused("elder's bits, day, no room", RefusalTests::full, x -> x.elder(0, bits, -1), UNKNOWN);
        }
        for (int day : WRONG_DAYS) {
            refused("elder's day", RefusalTests::some, x -> x.elder(0, 1, day), OUTSIDE);
            refused("elder's day, no room", RefusalTests::full, x -> x.elder(0, 1, day), OUTSIDE);
        }
        refused("elder after its filing", RefusalTests::some, x -> x.elder(0, 1, 1001), OUTSIDE);
        refused("elder after its filing, no room", RefusalTests::full, x -> x.elder(7, 1, 1008), OUTSIDE);
        refused("the 4th elder", RefusalTests::full, x -> x.elder(0, ALL, 1000), FULL);
        refused("the 4th elder of the last filing", RefusalTests::full, x -> x.elder(7, ALL, 1007), FULL);
    }

    private static void counts() {
        for (int what : new int[] {-1, 6, LOW, HIGH}) {
            refused("count", RefusalTests::some, x -> x.count(what), OUTSIDE);
            refused("count of a new object", RefusalTests::empty, x -> x.count(what), OUTSIDE);
        }
    }

    // ---- texts

    private static void feeding() {
        for (int n : new int[] {-1, 0, 9, LOW, HIGH}) {
            refused("feed", RefusalTests::some, x -> x.feed(n, -1L), OUTSIDE);
            refused("feed, no room", RefusalTests::full, x -> x.feed(n, -1L), OUTSIDE);
        }
        for (int n = 1; n <= 8; n++) {
            int bytes = n;
            refused("feed when there are 200", RefusalTests::full, x -> x.feed(bytes, 0x3b3b3b3b3b3b3b3bL), FULL);
            refused("feed one too many", () -> nearlyFull(bytes - 1), x -> x.feed(bytes, 0x3b3b3b3b3b3b3b3bL), FULL);
        }
    }

    /** A text with room for so many bytes. */
    private static ClaimTrees nearlyFull(int room) {
        ClaimTrees x = quiet();
        feedText(x, "claim 7;" + " ".repeat(192 - room));
        return x;
    }

    private static void tellingClaims() {
        for (int f : new int[] {-1, 3, 8, LOW, HIGH}) {
            refused("claims of no filing", RefusalTests::some, x -> x.claims(f), UNKNOWN);
            refused("claims of no filing, a fault", RefusalTests::withFaultyText, x -> x.claims(f), UNKNOWN);
            refused("claims of no filing, no text", RefusalTests::quiet, x -> x.claims(f), UNKNOWN);
        }
        refused("claims where there are no filings", RefusalTests::empty, x -> x.claims(0), UNKNOWN);
        refused("claims of the ninth, no room", RefusalTests::full, x -> x.claims(8), UNKNOWN);
        for (int f = 0; f < 2; f++) {
            int told = f;
            refused("it has claims", RefusalTests::some, x -> x.claims(told), NOT);
            refused("it has claims, a fault", RefusalTests::withFaultyText, x -> x.claims(told), NOT);
            refused("it has claims, no text", RefusalTests::quiet, x -> x.claims(told), NOT);
            refused("it has claims, no room", RefusalTests::full, x -> x.claims(told), NOT);
        }
    }

    private static void tellingRules() {
        for (int land : WRONG_LANDS) {
            refused("rules of no land", RefusalTests::some, x -> x.rules(land), UNKNOWN);
            refused("rules of no land, no text", RefusalTests::quiet, x -> x.rules(land), UNKNOWN);
            refused("rules of no land, too long", RefusalTests::withLongText, x -> x.rules(land), UNKNOWN);
            refused("rules of no land, too long, a fault", RefusalTests::withFaultyText, x -> x.rules(land), UNKNOWN);
            refused("rule of no land", RefusalTests::some, x -> x.rule(land, 0), UNKNOWN);
            refused("rule of no land, no rule", RefusalTests::some, x -> x.rule(land, 6), UNKNOWN);
        }
        for (int land = 0; land < 4; land++) {
            int one = land;
            refused("121 bytes", RefusalTests::withLongText, x -> x.rules(one), NOT);
            refused("121 bytes, a fault", RefusalTests::withFaultyText, x -> x.rules(one), NOT);
            refused("200 bytes", RefusalTests::full, x -> x.rules(one), NOT);
            for (int what : new int[] {-1, 6, LOW, HIGH}) {
                refused("no rule", RefusalTests::some, x -> x.rule(one, what), OUTSIDE);
            }
        }
    }

    // ---- claims

    private static void noClaim() {
        for (int c : new int[] {-1, 7, 40, LOW, HIGH}) {
            refused("claim", RefusalTests::some, x -> x.claim(c, 0), UNKNOWN);
            refused("claim, what", RefusalTests::some, x -> x.claim(c, 5), UNKNOWN);
            refused("version", RefusalTests::some, x -> x.version(c, 0), UNKNOWN);
            refused("version, none such", RefusalTests::some, x -> x.version(c, 9), UNKNOWN);
            refused("day", RefusalTests::some, x -> x.day(c, 0, 0), UNKNOWN);
            refused("day, none such", RefusalTests::some, x -> x.day(c, -1, 0), UNKNOWN);
            refused("does", RefusalTests::some, x -> x.does(c, 0, 0), UNKNOWN);
            refused("does, none such", RefusalTests::some, x -> x.does(c, -1, 0), UNKNOWN);
            refused("by", RefusalTests::some, x -> x.by(c, 0, 0), UNKNOWN);
            refused("by, none such", RefusalTests::some, x -> x.by(c, -1, 0), UNKNOWN);
            refused("stands", RefusalTests::some, x -> x.stands(c, 0), UNKNOWN);
            refused("wider, a", RefusalTests::some, x -> x.wider(c, 0), UNKNOWN);
            refused("wider, b", RefusalTests::some, x -> x.wider(0, c), UNKNOWN);
            refused("wider, both", RefusalTests::some, x -> x.wider(c, c), UNKNOWN);
            refused("toNarrow", RefusalTests::some, x -> x.toNarrow(c, 0), UNKNOWN);
            refused("since", RefusalTests::some, x -> x.since(0, c, 0), UNKNOWN);
        }
        refused("claim 40 of 40", RefusalTests::full, x -> x.claim(40, 0), UNKNOWN);
        refused("a new object's claim", RefusalTests::empty, x -> x.claim(0, 0), UNKNOWN);
        refused("a new object's version", RefusalTests::empty, x -> x.version(0, 0), UNKNOWN);
        refused("a new object's filing", RefusalTests::empty, x -> x.first(0), UNKNOWN);
        for (int what : new int[] {-1, 5, LOW, HIGH}) {
            refused("claim's what", RefusalTests::some, x -> x.claim(6, what), OUTSIDE);
        }
        for (int f : new int[] {-1, 3, 8, LOW, HIGH}) {
            refused("first", RefusalTests::some, x -> x.first(f), UNKNOWN);
        }
        refused("first of the ninth", RefusalTests::full, x -> x.first(8), UNKNOWN);
    }

    private static void claimsInNoLand() {
        for (int land : WRONG_LANDS) {
            refused("day", RefusalTests::some, x -> x.day(0, 0, land), UNKNOWN);
            refused("day, none such", RefusalTests::some, x -> x.day(0, 8, land), UNKNOWN);
            refused("day, no claim", RefusalTests::some, x -> x.day(7, 8, land), UNKNOWN);
            refused("does", RefusalTests::some, x -> x.does(0, 0, land), UNKNOWN);
            refused("does, none such", RefusalTests::some, x -> x.does(0, 8, land), UNKNOWN);
            refused("does, no claim", RefusalTests::some, x -> x.does(7, 8, land), UNKNOWN);
            refused("by", RefusalTests::some, x -> x.by(0, 0, land), UNKNOWN);
            refused("by, none such", RefusalTests::some, x -> x.by(0, 8, land), UNKNOWN);
            refused("by, no claim", RefusalTests::some, x -> x.by(7, 8, land), UNKNOWN);
            refused("stands", RefusalTests::some, x -> x.stands(0, land), UNKNOWN);
            refused("stands, no claim", RefusalTests::some, x -> x.stands(7, land), UNKNOWN);
            refused("toNarrow", RefusalTests::some, x -> x.toNarrow(0, land), UNKNOWN);
            refused("toNarrow, no claim", RefusalTests::some, x -> x.toNarrow(7, land), UNKNOWN);
        }
    }

    private static void narrowing() {
        int inText = 1 << 14, notInText = 1 << 25;
        for (int c : new int[] {-1, 15, 40, LOW, HIGH}) {
            refused("no claim", RefusalTests::withEight, x -> x.narrow(c, inText), UNKNOWN);
            refused("no claim, bits", RefusalTests::withEight, x -> x.narrow(c, -1), UNKNOWN);
            refused("no claim, not in the text", RefusalTests::withEight, x -> x.narrow(c, notInText), UNKNOWN);
        }
        refused("where there are no claims", RefusalTests::empty, x -> x.narrow(0, 0), UNKNOWN);
        for (int bits : WRONG_BITS) {
            refused("bits", RefusalTests::withEight, x -> x.narrow(0, bits), UNKNOWN);
            refused("bits, not in the text", RefusalTests::withEight, x -> x.narrow(0, bits | notInText), UNKNOWN);
            refused("bits, too many versions", RefusalTests::withEight, x -> x.narrow(8, bits | inText), UNKNOWN);
        }
        refused("not in the text", RefusalTests::withEight, x -> x.narrow(0, notInText), NOT);
        refused("one of two not in the text", RefusalTests::withEight, x -> x.narrow(0, inText | notInText), NOT);
        refused("not in the text, too many versions", RefusalTests::withEight, x -> x.narrow(8, inText | notInText), NOT);
        refused("too many versions of another", RefusalTests::withEight, x -> x.narrow(8, inText), FULL);
        refused("the like one, too", RefusalTests::withEight, x -> x.narrow(7, inText), FULL);
        refused("by more than one", RefusalTests::withEight, x -> x.narrow(8, inText | 1), FULL);
        refused("in a full object, not in the text", RefusalTests::full, x -> x.narrow(39, notInText), NOT);
        refused("a kind of none in the text", RefusalTests::full, x -> x.narrow(0, 1 << 20), NOT);
    }

    // ---- fees, products

    private static void fees() {
        for (int f : new int[] {-1, 3, 8, LOW, HIGH}) {
            refused("pay of no filing", RefusalTests::some, x -> x.pay(f, 0, 1), UNKNOWN);
            refused("pay of no filing, day", RefusalTests::some, x -> x.pay(f, 0, -1), UNKNOWN);
            refused("force of no filing", RefusalTests::some, x -> x.force(f, 0, 1), UNKNOWN);
            refused("force of no filing, day", RefusalTests::some, x -> x.force(f, 0, -1), UNKNOWN);
        }
        for (int land : WRONG_LANDS) {
            refused("pay in no land", RefusalTests::some, x -> x.pay(0, land, 1), UNKNOWN);
            refused("pay in no land, day", RefusalTests::some, x -> x.pay(0, land, 20001), UNKNOWN);
            refused("pay of none, in no land, day", RefusalTests::some, x -> x.pay(3, land, 20001), UNKNOWN);
            refused("force in no land", RefusalTests::some, x -> x.force(0, land, 1), UNKNOWN);
            refused("force in no land, day", RefusalTests::some, x -> x.force(0, land, 20001), UNKNOWN);
            refused("force of none, in no land, day", RefusalTests::some, x -> x.force(3, land, 20001), UNKNOWN);
        }
        for (int day : WRONG_DAYS) {
            refused("pay's day", RefusalTests::some, x -> x.pay(0, 0, day), OUTSIDE);
            refused("pay's day, none paid", RefusalTests::some, x -> x.pay(2, 3, day), OUTSIDE);
            refused("force's day", RefusalTests::some, x -> x.force(0, 0, day), OUTSIDE);
        }
        refused("pay of a new object", RefusalTests::empty, x -> x.pay(0, 0, 1), UNKNOWN);
        refused("force of a new object", RefusalTests::empty, x -> x.force(0, 0, 1), UNKNOWN);
    }

    private static void products() {
        for (int bits : WRONG_BITS) {
            refused("product's bits", RefusalTests::some, x -> x.product(bits, 1, 1), UNKNOWN);
            refused("product's bits, day", RefusalTests::some, x -> x.product(bits, 1, -1), UNKNOWN);
            refused("product's bits, day, no room", RefusalTests::full, x -> x.product(bits, 1, -1), UNKNOWN);
        }
        for (int lands : new int[] {16, 32, 31, -1, LOW, HIGH}) {
            refused("product's lands", RefusalTests::some, x -> x.product(1, lands, 1), UNKNOWN);
            refused("product's lands, day", RefusalTests::some, x -> x.product(1, lands, -1), UNKNOWN);
            refused("product's lands, no room", RefusalTests::full, x -> x.product(1, lands, 1), UNKNOWN);
            refused("product's bits, lands, day, no room", RefusalTests::full, x -> x.product(-1, lands, -1), UNKNOWN);
        }
        for (int day : WRONG_DAYS) {
            refused("product's day", RefusalTests::some, x -> x.product(1, 1, day), OUTSIDE);
            refused("product's day, no room", RefusalTests::full, x -> x.product(1, 1, day), OUTSIDE);
        }
        refused("the 13th product", RefusalTests::full, x -> x.product(ALL, 15, 0), FULL);
    }

    private static void falling() {
        for (int p : new int[] {-1, 2, 12, LOW, HIGH}) {
            refused("falls of none", RefusalTests::some, x -> x.falls(p, 0, 1, 0), UNKNOWN);
            refused("falls of none, day, what", RefusalTests::some, x -> x.falls(p, 0, -1, 2), UNKNOWN);
            refused("around of none", RefusalTests::some, x -> x.around(p, 0, 1), UNKNOWN);
            refused("around of none, day", RefusalTests::some, x -> x.around(p, 0, -1), UNKNOWN);
            refused("since of none", RefusalTests::some, x -> x.since(p, 0, 0), UNKNOWN);
            refused("since of none, no claim, no land", RefusalTests::some, x -> x.since(p, 7, 4), UNKNOWN);
        }
        refused("falls of the 13th", RefusalTests::full, x -> x.falls(12, 0, 1, 0), UNKNOWN);
        for (int land : WRONG_LANDS) {
            refused("falls in no land", RefusalTests::some, x -> x.falls(0, land, 1, 0), UNKNOWN);
            refused("falls in no land, day, what", RefusalTests::some, x -> x.falls(0, land, 20001, -1), UNKNOWN);
            refused("around in no land", RefusalTests::some, x -> x.around(0, land, 1), UNKNOWN);
            refused("around in no land, day", RefusalTests::some, x -> x.around(0, land, 20001), UNKNOWN);
            refused("since in no land", RefusalTests::some, x -> x.since(0, 0, land), UNKNOWN);
        }
        for (int day : WRONG_DAYS) {
            refused("falls' day", RefusalTests::some, x -> x.falls(0, 0, day, 0), OUTSIDE);
            refused("falls' day, how many", RefusalTests::some, x -> x.falls(0, 0, day, 1), OUTSIDE);
            refused("around's day", RefusalTests::some, x -> x.around(0, 0, day), OUTSIDE);
        }
        for (int what : new int[] {-1, 2, LOW, HIGH}) {
            refused("falls' what", RefusalTests::some, x -> x.falls(0, 0, 2000, what), OUTSIDE);
            refused("falls' what, in a land where it is not", RefusalTests::some, x -> x.falls(0, 3, 2000, what), OUTSIDE);
        }
        refused("falls of a new object", RefusalTests::empty, x -> x.falls(0, 0, 1, 0), UNKNOWN);
        refused("around of a new object", RefusalTests::empty, x -> x.around(0, 0, 1), UNKNOWN);
        refused("since of a new object", RefusalTests::empty, x -> x.since(0, 0, 0), UNKNOWN);
    }

    // ---- faults of texts leave all but the text and the fault's byte as it was

    /** Both objects read a text with a fault at byte 0 last, so that they differ in nothing that is due. */
    private static void unchangedBy(String text, Supplier<ClaimTrees> world, ToIntFunction<ClaimTrees> call, int due) {
        refused("fault " + (-10 - due) + " of '" + text + "'", () -> {
            ClaimTrees x = world.get();
            feedText(x, "?");
            x.rules(0);
            return x;
        }, x -> {
            feedText(x, text);
            int got = call.applyAsInt(x);
            feedText(x, "?");
            x.rules(0);
            return got;
        }, due);
    }

    private static void faultsOfClaims() {
        String good = "claim 1;claim 2;claim 3 of 0,1;";
        unchangedBy(good + "claim", RefusalTests::quiet, x -> x.claims(2), -11);
        unchangedBy(good + "claim 30;", RefusalTests::quiet, x -> x.claims(2), -12);
        unchangedBy(good + "claim 1 1;", RefusalTests::quiet, x -> x.claims(2), -13);
        unchangedBy(good + "claim 1 of 0,0;", RefusalTests::quiet, x -> x.claims(2), -13);
        unchangedBy(good + "claim 1 of 3;", RefusalTests::quiet, x -> x.claims(2), -14);
        unchangedBy("claim0;claim1;claim2;claim3;claim4;claim5;claim6;claim7;claim8;claim9 of 0,1,2,3,4,5,6,7,8;",
            RefusalTests::quiet, x -> x.claims(2), -15);
        unchangedBy(good, () -> {
            ClaimTrees x = full();
            x.claims(5);
            return x;
        }, x -> x.claims(7), -16);
    }

    private static void faultsOfRules() {
        String good = "most 1;year 1;grace 1;secret no;known 1;term 1;";
        for (int land = 0; land < 4; land++) {
            int one = land;
            unchangedBy(good + "known", RefusalTests::quiet, x -> x.rules(one), -11);
            unchangedBy(good + "known 30;", RefusalTests::quiet, x -> x.rules(one), -12);
            unchangedBy(good + "term 1;", RefusalTests::quiet, x -> x.rules(one), -13);
        }
    }

    // ---- no call throws, whatever it is asked

    private static final int[] EXTREMES = {LOW, LOW + 1, -541, -2, -1, 0, 1, 3, 4, 5, 7, 8, 12, 24, 29, 30, 31, 32, 39, 40, 64, 540,
        1000, 20000, 20001, 1 << 29, ALL, 1 << 30, HIGH - 540, HIGH};

    private interface Asking {
        void ask(ClaimTrees x, int a, int b, int c);
    }

    private static void oneAndTwo(ClaimTrees x, int a, int b) {
        x.with(a);
        x.count(a);
        x.claims(a);
        x.rules(a);
        x.fault();
        x.first(a);
        x.kind(a, b);
        x.near(a, b, (a & 1) == 0);
        x.feed(a, b * 0x100000001L);
        x.rule(a, b);
        x.claim(a, b);
        x.version(a, b);
        x.stands(a, b);
        x.wider(a, b);
        x.narrow(a, b);
        x.toNarrow(a, b);
    }

    private static void three(ClaimTrees x, int a, int b, int c) {
        x.day(a, b, c);
        x.does(a, b, c);
        x.by(a, b, c);
        x.paper(a, b, c);
        x.filing(a, b, c);
        x.elder(a, b, c);
        x.pay(a, b, c);
        x.force(a, b, c);
        x.product(a, b, c);
        x.falls(a, b, c, a & 1);
        x.falls(0, 0, a, b);
        x.around(a, b, c);
        x.since(a, b, c);
    }

    private static void askAll(String name, Supplier<ClaimTrees> world, Asking asking) {
        for (int a : EXTREMES) {
            for (int b : EXTREMES) {
                ClaimTrees x = world.get();
                for (int c : EXTREMES) {
                    try {
                        asking.ask(x, a, b, c);
                    } catch (RuntimeException thrown) {
                        tellWrong(name + " threw " + thrown + " for " + a + ", " + b + ", " + c);
                    }
                }
            }
        }
    }

    private static void noCallThrows() {
        List<Supplier<ClaimTrees>> worlds = List.of(RefusalTests::empty, RefusalTests::some, RefusalTests::full,
            RefusalTests::withEight, RefusalTests::withLongText);
        for (int w = 0; w < worlds.size(); w++) {
            askAll("a call of one or two numbers, world " + w, worlds.get(w), (x, a, b, c) -> oneAndTwo(x, a, b));
            askAll("a call of three numbers, world " + w, worlds.get(w), RefusalTests::three);
        }
    }

    public static void main(String[] args) {
        kind();
        withAndNear();
        papersAndFilings();
        elders();
        counts();
        feeding();
        tellingClaims();
        tellingRules();
        noClaim();
        claimsInNoLand();
        narrowing();
        fees();
        products();
        falling();
        faultsOfClaims();
        faultsOfRules();
        noCallThrows();
        System.out.println("RefusalTests: " + refusals + " refusals, " + asked + " answers behind them, " + wrong + " not as due");
        if (wrong != 0) {
            System.exit(1);
        }
    }
}
