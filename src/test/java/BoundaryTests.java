import java.io.IOException;
import java.nio.file.Files;
import java.nio.file.Path;
import java.util.Set;
import java.util.TreeSet;

/**
 * The document's sentences that name a boundary, in its order: each is quoted, and has answers on both
 * sides of its boundary. A quote that the document does not have is a fault of the test; where the document
 * is not at hand, the answers alone are looked at.
 */
public final class BoundaryTests {
    private static final int NONE = -1, UNKNOWN = -1001, OUTSIDE = -1002, NOT = -1003, FULL = -1004;
    private static final int LOW = Integer.MIN_VALUE, HIGH = Integer.MAX_VALUE, ALL = (1 << 30) - 1;
    private static final Path DOCUMENT = Path.of("..", "shared", "DOC.md");
    private static final int PROMISES = 29;
    private static String document = "";
    private static String words = "";
    private static int wrong = 0, asked = 0, quotes = 0;
    private static final Set<Integer> PROMISES_QUOTED = new TreeSet<>();

    // ---- how answers are looked at

    private static String plain(String text) {
        return text.replaceAll("\\s+", " ");
    }

    private static void tellWrong(String what) {
        wrong++;
        System.out.println("\"" + words + "\": " + what);
    }

    /** A sentence of the terms. */
    private static void sentence(String quote) {
        words = quote;
        quotes++;
        if (!document.isEmpty() && !document.contains(plain(quote))) {
            tellWrong("the document does not say so");
        }
    }

    /** A sentence of a promise, which must stand in that promise's own part. */
    private static void promise(int number, String quote) {
        sentence(quote);
        PROMISES_QUOTED.add(number);
        int from = document.indexOf("## Promise " + number + ":");
        int to = document.indexOf("## ", from + 3);
        boolean found = from >= 0 && to >= 0 && document.substring(from, to).contains(plain(quote));
        if (!document.isEmpty() && !found) {
            tellWrong("not in promise " + number);
        }
    }

    private static void due(String call, int got, int want) {
        asked++;
        if (got != want) {
            tellWrong(call + " answered " + got + ", due is " + want);
        }
    }

    // ---- what tests are made of

    private static void feedText(ClaimTrees x, String text) {
        for (int at = 0; at < text.length(); at += 8) {
            int n = Math.min(8, text.length() - at);
            long bytes = 0;
            for (int i = 0; i < n; i++) {
                bytes = bytes << 8 | text.charAt(at + i);
            }
            x.feed(n, bytes);
        }
    }

    private static int tellClaims(ClaimTrees x, int filing, String text) {
        feedText(x, text);
        return x.claims(filing);
    }

    private static int tellRules(ClaimTrees x, int land, String text) {
        feedText(x, text);
        return x.rules(land);
    }

    /** One filing on day 1000 in field 0, whose text has features 0 to 19, with claims. */
    private static ClaimTrees filed(String claims) {
        ClaimTrees x = new ClaimTrees();
        x.filing((1 << 20) - 1, 1000, 0);
        if (tellClaims(x, 0, claims) < 0) {
            tellWrong("the test's own claims have a fault: " + claims);
        }
        return x;
    }

    private static void good(String text, int clauses) {
        ClaimTrees x = new ClaimTrees();
        x.filing(ALL, 1000, 0);
        due("claims of '" + text + "'", tellClaims(x, 0, text), clauses);
        due("fault of '" + text + "'", x.fault(), NONE);
    }

    private static void faulty(String text, int number, int at) {
        ClaimTrees x = new ClaimTrees();
        x.filing(ALL, 1000, 0);
        due("claims of '" + text + "'", tellClaims(x, 0, text), -10 - number);
        due("fault of '" + text + "'", x.fault(), at);
    }

    private static void goodRules(String text, int clauses) {
        ClaimTrees x = new ClaimTrees();
        due("rules of '" + text + "'", tellRules(x, 3, text), clauses);
        due("fault of '" + text + "'", x.fault(), NONE);
    }

    private static void faultyRules(String text, int number, int at) {
        ClaimTrees x = new ClaimTrees();
        due("rules of '" + text + "'", tellRules(x, 3, text), -10 - number);
        due("fault of '" + text + "'", x.fault(), at);
    }

    /** So many claims of one feature each, of 8 bytes each. */
    private static String plainClaims(int n) {
        StringBuilder text = new StringBuilder();
        for (int i = 0; i < n; i++) {
            text.append("claim ").append(i % 10).append(';');
        }
        return text.toString();
    }

    // ---- terms: numbers, sets, features, days

    private static void manyCalls() {
        sentence("An object is used for at most 512 calls after it has been made");
        ClaimTrees x = new ClaimTrees();
        due("call 1", x.filing(ALL, 1000, 0), 0);
        for (int call = 2; call <= 480; call += 2) {
            due("call " + call, x.feed(8, 0x3030303030303030L), 8);
            due("call " + (call + 1), x.claims(0), -11);
        }
        due("call 482", x.feed(8, 0x636c61696d20313bL), 8);
        due("call 483", x.claims(0), 1);
        for (int call = 484; call < 510; call++) {
            due("call " + call, x.narrow(0, 1 << call - 483), call - 483);
        }
        due("call 510", x.kind(0, 29), 2);
        due("call 511", x.paper(ALL, 999, 4), 0);
        due("call 512", x.by(0, 0, 3), 0);
    }

    private static void numbers() {
        sentence("What has a number has it from 0 on, as it comes.");
        ClaimTrees x = new ClaimTrees();
        due("the first paper", x.paper(1, 1, 1), 0);
        due("the second paper", x.paper(1, 1, 1), 1);
        due("the first filing", x.filing(1, 1, 1), 0);
        due("the second filing", x.filing(1, 1, 1), 1);
        due("the first product", x.product(1, 1, 1), 0);
        due("the second product", x.product(1, 1, 1), 1);
        due("claims of the second filing come first", tellClaims(x, 1, "claim 5;claim 6;"), 2);
        due("then those of the first", tellClaims(x, 0, "claim 7;"), 1);
        due("first of the second filing", x.first(1), 0);
        due("first of the first filing", x.first(0), 2);
        due("claim 2 is of the first filing", x.claim(2, 0), 0);
        due("claim 1 is of the second filing", x.claim(1, 0), 1);
        due("claim 2", x.version(2, 0), 128);

        sentence("A SET is a whole number, bit k for k.");
        due("with nothing", x.with(0), 0);
        due("with bit 0", x.with(1), 1);
        due("with bit 29", x.with(1 << 29), 1 << 29);
        due("with all bits", x.with(ALL), ALL);
        due("bit 30", x.with(1 << 30), UNKNOWN);
        due("bit 31", x.with(LOW), UNKNOWN);
        due("all 32 bits", x.with(-1), UNKNOWN);
    }

    private static void features() {
        sentence("1 FEATURES 0 to 29;");
        ClaimTrees x = new ClaimTrees();
        due("kind(0, 29)", x.kind(0, 29), 2);
        due("kind(29, 1)", x.kind(29, 1), 2);
        for (int wrongOne : new int[] {-1, 30, 31, 32, LOW, HIGH}) {
            due("kind(" + wrongOne + ", 2)", x.kind(wrongOne, 2), UNKNOWN);
            due("kind(2, " + wrongOne + ")", x.kind(2, wrongOne), UNKNOWN);
        }

        sentence("told once each; no rounds");
        due("told twice", x.kind(0, 5), NOT);
        due("told twice, the same", x.kind(0, 29), NOT);
        due("a round of one", x.kind(7, 7), NOT);
        due("a round of three", x.kind(1, 0), NOT);
        due("beside the round", x.kind(1, 7), 2);
        due("two of one kind are no round", x.kind(8, 29), 4);
        ClaimTrees two = new ClaimTrees();
        due("one way", two.kind(3, 4), 2);
        due("a round of two", two.kind(4, 3), NOT);

        sentence("who has it has its KIND, that one's, and so on: WITH KINDS.");
        ClaimTrees chain = new ClaimTrees();
        for (int f = 28; f >= 0; f--) {
            due("kind(" + f + ")", chain.kind(f, f + 1), 30 - f);
        }
        due("a round of thirty", chain.kind(29, 0), NOT);
        due("from the first on", chain.with(1), ALL);
        due("from the last but one on", chain.with(1 << 28), 3 << 28);
        due("the last has no kind", chain.with(1 << 29), 1 << 29);
    }

    private static void daysAndFields() {
        sentence("DAYS are 0 to 20000.");
        ClaimTrees x = filed("claim 0;");
        x.product(1, 15, 0);
        for (int day : new int[] {0, 20000}) {
            due("paper on " + day, x.paper(1, day, 0) >= 0 ? 1 : 0, 1);
            due("filing on " + day, x.filing(1 << 25, day, 0) >= 0 ? 1 : 0, 1);
            due("elder on " + day, x.elder(x.count(1) - 1, 1, day), 1);
            due("product on " + day, x.product(1, 1, day) >= 0 ? 1 : 0, 1);
            due("pay until " + day, x.pay(0, 2, day) == OUTSIDE ? 1 : 0, 0);
            due("force on " + day, x.force(0, 0, day), 0);
            due("falls on " + day, x.falls(0, 0, day, 1), 0);
            due("around on " + day, x.around(0, 0, day), 0);
        }
        for (int day : new int[] {-1, 20001, LOW, HIGH}) {
            due("paper on " + day, x.paper(1, day, 0), OUTSIDE);
            due("filing on " + day, x.filing(1, day, 0), OUTSIDE);
            due("elder on " + day, x.elder(2, 1, day), OUTSIDE);
            due("product on " + day, x.product(1, 1, day), OUTSIDE);
            due("pay until " + day, x.pay(0, 2, day), OUTSIDE);
            due("force on " + day, x.force(0, 0, day), OUTSIDE);
            due("falls on " + day, x.falls(0, 0, day, 1), OUTSIDE);
            due("around on " + day, x.around(0, 0, day), OUTSIDE);
        }

        sentence("in a FIELD (0 .. 4)");
        for (int field : new int[] {0, 4}) {
            due("paper in " + field, x.paper(1, 1, field) >= 0 ? 1 : 0, 1);
            due("filing in " + field, x.filing(1 << 25, 1, field) >= 0 ? 1 : 0, 1);
        }
        due("near 0 and 4", x.near(0, 4, false), 0);
        due("near 4 and 0", x.near(4, 0, false), 0);
        for (int field : new int[] {-1, 5, 31, 32, LOW, HIGH}) {
            due("paper in " + field, x.paper(1, 1, field), OUTSIDE);
            due("filing in " + field, x.filing(1, 1, field), OUTSIDE);
            due("near " + field + " and 0", x.near(field, 0, true), OUTSIDE);
            due("near 0 and " + field, x.near(0, field, true), OUTSIDE);
        }

        sentence("each NEAR to itself; no others at first");
        for (int a = 0; a < 5; a++) {
            for (int b = 0; b < 5; b++) {
                ClaimTrees y = new ClaimTrees();
                y.filing(3, 1000, a);
                tellClaims(y, 0, "claim 0 1;");
                y.paper(1, 900, b);
                y.paper(2, 900, b);
                due("papers of field " + b + ", a filing of " + a, y.does(0, 0, 0), a == b ? 2 : 0);
                if (a != b) {
                    due("near " + a + " and " + b, y.near(a, b, true), 0);
                    due("they were", y.near(b, a, true), 1);
                    due("then they count", y.does(0, 0, 0), 2);
                }
            }
        }
    }

    private static void rooms() {
        sentence("PAPERS (24 at most)");
        ClaimTrees x = new ClaimTrees();
        for (int p = 0; p < 24; p++) {
            due("paper", x.paper(1, 1, 1), p);
        }
        due("the 25th paper", x.paper(1, 1, 1), FULL);
        due("papers", x.count(0), 24);

        sentence("FILINGS (8 at most)");
        for (int f = 0; f < 8; f++) {
            due("filing", x.filing(1, 100, 1), f);
        }
        due("the 9th filing", x.filing(1, 100, 1), FULL);
        due("filings", x.count(1), 8);

        sentence("up to 3 ELDERS, each a DAY (not after its own) and a SET.");
        for (int f = 0; f < 8; f += 7) {
            due("a day after its own", x.elder(f, 1, 101), OUTSIDE);
            due("its own day", x.elder(f, 1, 100), 1);
            due("a day before", x.elder(f, 1, 99), 2);
            due("the third", x.elder(f, 0, 0), 3);
            due("the fourth", x.elder(f, 1, 99), FULL);
        }
        due("of a filing between", x.elder(3, 1, 100), 1);

        sentence("PRODUCTS (12 at most)");
        for (int p = 0; p < 12; p++) {
            due("product", x.product(1, 1, 1), p);
        }
        due("the 13th product", x.product(1, 1, 1), FULL);
        due("products", x.count(3), 12);

        sentence("SHOWN it is from its DAY and 540 on.");
        ClaimTrees y = filed("claim 0;");
        y.pay(0, 0, 20000);
        due("539 days behind", y.force(0, 0, 1539), 0);
        due("540 days behind", y.force(0, 0, 1540), 1);
        y.filing(1, 19460, 0);
        y.filing(1, 19461, 0);
        y.pay(1, 0, 20000);
        y.pay(2, 0, 20000);
        due("540 days before the last day", y.force(1, 0, 20000), 1);
        due("539 days before the last day", y.force(2, 0, 20000), 0);
    }

    // ---- terms: texts of claims

    private static void roomForClaims() {
        sentence("2 CLAIMS (40 at most) of a FILING are told in a text (200 bytes at most)");
        ClaimTrees x = new ClaimTrees();
        for (int f = 0; f < 4; f++) {
            x.filing(1, 1000, 0);
        }
        String whole = plainClaims(24) + "claim 7;";
        due("a text of 200 bytes", tellClaims(x, 0, whole), 25);
        due("25 claims", x.count(2), 25);
        due("no room for the 16th of them", tellClaims(x, 1, plainClaims(16)), -16);
        due("the byte", x.fault(), 120);
        due("still 25", x.count(2), 25);
        due("room for 15", tellClaims(x, 1, plainClaims(15)), 15);
        due("40 claims", x.count(2), 40);
        due("the 40th", x.version(39, 0), 16);
        due("not one more", tellClaims(x, 2, "claim 1;"), -16);
        due("the byte", x.fault(), 0);
        due("still 40", x.count(2), 40);
        due("an empty text needs no room", x.claims(2), 0);
        ClaimTrees y = new ClaimTrees();
        y.filing(1, 1, 1);
        due("192 blanks and a clause", feedAll(y, " ".repeat(192) + "claim 1;"), 200);
        due("the clause at the very end", y.claims(0), 1);
        due("28 clauses without a blank", tellClaims(x, 3, "claim0;".repeat(28)), -16);
        claimsOfManyOthers();
        ClaimTrees z = new ClaimTrees();
        z.filing(1, 1, 1);
        due("as many as a text can tell", tellClaims(z, 0, "claim0;".repeat(28) + "    "), 28);
    }

    /** Forty claims in three texts, sixteen of them of eight others each. */
    private static void claimsOfManyOthers() {
        ClaimTrees x = new ClaimTrees();
        String bases = "claim0;claim1;claim2;claim3;claim4;claim5;claim6;claim7;";
        String ofAll = "claim8of0,1,2,3,4,5,6,7;";
        int[] others = {6, 6, 4};
        for (int f = 0; f < 3; f++) {
            x.filing(ALL, 1000, 0);
            due("a text of others", tellClaims(x, f, bases + ofAll.repeat(others[f])), 8 + others[f]);
        }
        due("forty", x.count(2), 40);
        for (int f = 0; f < 3; f++) {
            for (int c = x.first(f) + 8; c < x.first(f) + 8 + others[f]; c++) {
                due("versions of claim " + c, x.claim(c, 3), 8);
                due("the last version of claim " + c, x.version(c, 7), 1 << 7 | 1 << 8);
            }
            due("those of the first of filing " + f, x.claim(x.first(f), 4), others[f]);
            due("the first is narrowed", x.narrow(x.first(f), 1 << 9), 1);
            due("so is the last", x.version(x.first(f) + 7 + others[f], 0), 1 | 1 << 8 | 1 << 9);
        }
    }

    private static int feedAll(ClaimTrees x, String text) {
        feedText(x, text);
        return x.count(4);
    }

    private static void clauses() {
        sentence("clause = 'claim' F {F} ['of' N {',' N}] ';'");
        good("", 0);
        good("claim 0;", 1);
        good("claim 0 1;", 1);
        good("claim 0 1 2 3 4 5 6 7 8 9 10 11 12 13 14 15 16 17 18 19 20 21 22 23 24 25 26 27 28 29;", 1);
        good("claim 0;claim 1 of 0;", 2);
        good("claim 0;claim 1;claim 2 of 0,1;", 3);
        faulty(";", 1, 0);
        faulty("0;", 1, 0);
        faulty(",", 1, 0);
        faulty("of 0;", 1, 0);
        faulty("claim;", 1, 5);
        faulty("claim claim 0;", 1, 6);
        faulty("claim of 0;", 1, 6);
        faulty("claim ,0;", 1, 6);
        faulty("claim 0,1;", 1, 7);
        faulty("claim 0 claim 1;", 1, 8);
        faulty("claim 0;;", 1, 8);
        faulty("claim 0;claim 1 of;", 1, 18);
        faulty("claim 0;claim 1 of of 0;", 1, 19);
        faulty("claim 0;claim 1 of ,0;", 1, 19);
        faulty("claim 0;claim 1 of 0,;", 1, 21);
        faulty("claim 0;claim 1 of 0,,0;", 1, 21);
        faulty("claim 0;claim 1 of 0 of 0;", 1, 21);
        faulty("claim 0;claim 1;claim 2 of 0 1;", 1, 29);
        faulty("claim 0;claim 1 of 0 claim 2;", 1, 21);

        sentence("F 0 .. 29: its own FEATURES");
        ClaimTrees x = filed("claim 0;claim 29;claim 0 29;");
        due("0", x.claim(0, 1), 1);
        due("29", x.claim(1, 1), 1 << 29);
        due("both", x.claim(2, 1), 1 << 29 | 1);
        faulty("claim 30;", 2, 6);
        faulty("claim 99;", 2, 6);
        faulty("claim -1;", 1, 6);

        sentence("N: numbers of CLAIMS of this text, the first one 0");
        ClaimTrees y = filed("claim 0;claim 1 of 0;");
        y.filing(ALL, 1000, 0);
        due("another text", tellClaims(y, 1, "claim 2;claim 3 of 0;"), 2);
        due("of the first of this text", y.version(3, 0), 12);
        due("not of claim 0", y.claim(0, 4), 1);
        y.filing(ALL, 1000, 0);
        due("none of others' texts", tellClaims(y, 2, "claim 2 of 0;"), -14);
        due("the byte", y.fault(), 11);

        sentence("of 'of' only ones ahead of it");
        good("claim 0;claim 1;claim 2 of 1;", 3);
        faulty("claim 0;claim 1;claim 2 of 2;", 4, 27);
        faulty("claim 0;claim 1;claim 2 of 3;claim 3;", 4, 27);
        faulty("claim 0 of 0;", 4, 11);
    }

    private static void signs() {
        sentence("NUMBERS have one or two figures");
        good("claim 5 06 00 29;", 1);
        good("claim 5;claim 6;claim 7 of 00,1;", 3);
        faulty("claim 005;", 2, 6);
        faulty("claim 029;", 2, 6);
        faulty("claim 5;claim 6 of 000;", 2, 19);

        sentence("words are letters a .. z side by side");
        faulty("claim`0;", 1, 5);
        faulty("claim{0;", 1, 5);
        faulty("`claim 0;", 1, 0);
        faulty("Claim 0;", 1, 0);
        faulty("clAim 0;", 1, 0);
        faulty("claimz 0;", 1, 0);
        faulty("zlaim 0;", 1, 0);
        faulty("claiz 0;", 1, 0);
        faulty("claim 0;claim 1 zf 0;", 1, 16);
        faulty("claim 0;claim 1 oz 0;", 1, 16);
        faulty("aclaim 0;", 1, 0);
        faulty("clai 0;", 1, 0);
        faulty("claim 0;claim 1 off 0;", 1, 16);
        faulty("claim 0;claim 1 o 0;", 1, 16);
        faulty("claim 0/;", 1, 7);
        faulty("claim 0:;", 1, 7);
        faulty("claim /0;", 1, 6);
        faulty("claim :0;", 1, 6);

        sentence("blanks (32) may stand anywhere but within words and NUMBERS");
        good("  claim   0   1  ;  claim  2  of  0 ;  ", 2);
        good("claim 0;claim 1;claim 2 of 0 , 1 ;", 3);
        good(" ", 0);
        faulty("cla im 0;", 1, 0);
        faulty("claim 0;claim 1 o f 0;", 1, 16);
        ClaimTrees x = filed("claim 1 2;claim 12;");
        due("a blank parts numbers", x.claim(0, 1), 6);
        due("one number without it", x.claim(1, 1), 1 << 12);
        for (char sign : new char[] {0, 9, 10, 13, 31, 33, 127, 128, 160, 255}) {
            faulty("claim" + sign + "0;", 1, 5);
            faulty("claim 0" + sign + ";", 1, 7);
            faulty("claim 0;" + sign, 1, 8);
        }

        sentence("two words or two NUMBERS side by side need one");
        faulty("claimof 0;", 1, 0);
        faulty("claim 0;claimclaim 1;", 1, 8);
        faulty("claim 11;claim 2 of 01;", 4, 20);
        good("claim0;claim1of0;", 2);
        good("claim0 1;claim2of0;", 2);
    }

    private static void whichFault() {
        sentence("FAULTS, at the first byte that has one");
        faulty("claim 30 30 x", 2, 6);
        faulty("claim 1 1 30;", 3, 8);
        faulty("claim 1 30 1;", 2, 8);
        faulty("claim 1 of 0 x", 4, 11);
        faulty("claim 1;claim 2 of 0,0,1;", 3, 21);
        faulty("claim 1;claim 2 of 0,1,0;", 4, 21);
        faulty("claim 1;x claim 30;", 1, 8);

        sentence("(the end at the text's length)");
        faulty("claim", 1, 5);
        faulty("claim 0", 1, 7);
        faulty("claim 0  ", 1, 9);
        faulty("claim 0;claim 1 of", 1, 18);
        faulty("claim 0;claim 1 of 0", 1, 20);
        faulty("claim 0;claim 1 of 0,", 1, 21);
        faulty("claim 0;" + " ".repeat(187) + "claim", 1, 200);
        faulty("claim 0;" + " ".repeat(185) + "claim 7", 1, 200);
        good("claim 0;  ", 1);
        nothingBehindTheEnd();

        sentence("of these the least: 1 it cannot stand there (a word that cannot: at its first letter).");
        faulty("claim 0;claim 1 of 0 100;", 1, 21);
        faulty("100;", 1, 0);
        faulty("claim 0 1 000;", 2, 10);
        faulty("claim 0;claim 1 of 100;", 2, 19);
        faulty("claim 0;claim 1 of 0,000;", 2, 21);
        faulty("claim 0 x;", 1, 8);
        faulty("claim 0;clam 1;", 1, 8);

        sentence("2 a NUMBER of three figures or more, or out of its bounds (at its first).");
        good("claim 29;", 1);
        faulty("claim 30;", 2, 6);
        faulty("claim 0 1 000;", 2, 10);
        faulty("claim 4294967296;", 2, 6);
        faulty("claim 18446744073709551616;", 2, 6);
        faulty("claim " + "0".repeat(150) + ";", 2, 6);
        faulty("claim 0;claim 1 of 4294967296;", 2, 19);

        sentence("3 a FEATURE, or an N, again in its clause (at its first).");
        faulty("claim 1 2 1;", 3, 10);
        faulty("claim 1 01;", 3, 8);
        faulty("claim 29 29;", 3, 9);
        faulty("claim 1;claim 1 2 of 0,0;", 3, 23);
        faulty("claim 1;claim 2 of 0, 00;", 3, 22);
        good("claim 1;claim 1;claim 1 of 1;claim 1 of 1;", 4);
        good("claim 1;claim 0 of 0;", 2);

        sentence("4 an N of a CLAIM not ahead of it (at its first).");
        faulty("claim 1;claim 2 of 1;", 4, 19);
        faulty("claim 1;claim 2 of 0, 02;", 4, 22);
        faulty("claim 1;claim 2 of 39;", 4, 19);
        faulty("claim 1;claim 2 of 40;", 4, 19);
        faulty("claim 1;claim 2 of 99;", 4, 19);
        good("claim 1;claim 2 of 0;claim 3 of 1;", 3);
    }

    /** What an older, longer text had behind this one's end is not read. */
    private static void nothingBehindTheEnd() {
        ClaimTrees x = new ClaimTrees();
        x.filing(ALL, 1000, 0);
        String[] older = {"claim 1234;;;;;;;", "claimsssssss", "claim 1      ;x", "claim 1;;;;;"};
        String[] text = {"claim 1", "claim", "claim 1", "claim 1"};
        for (int i = 0; i < text.length; i++) {
            tellClaims(x, 0, older[i]);
            due("claims of '" + text[i] + "' behind '" + older[i] + "'", tellClaims(x, 0, text[i]), -11);
            due("the byte", x.fault(), text[i].length());
            tellRules(x, 0, older[i].replace("claim", "most "));
            due("rules behind '" + older[i] + "'", tellRules(x, 0, text[i].replace("claim", "most ")), -11);
            due("the byte", x.fault(), text[i].length());
        }
    }

    private static void fullFaults() {
        sentence("5 a CLAIM with more than 8 VERSIONS (at the end of its clause: at the ;).");
        String nine = plainClaims(9);
        good(nine + "claim 9 of 0,1,2,3,4,5,6,7;", 10);
        faulty(nine + "claim 9 of 0,1,2,3,4,5,6,7,8;", 5, 100);
        faulty(nine + "claim 9 of 0,1,2,3,4,5,6,7,8  ;claim x", 5, 102);
        faulty(nine + "claim 9 of 0,1,2,3,4,5,6,7,8,8;", 3, 101);
        faulty(nine + "claim 9 of 0,1,2,3,4,5,6,7,8", 1, 100);
        good(nine + "claim 8 7 of 0,1,2,3,4,5,6,7,8;", 10);
        good(nine + "claim 9 of 0,1,2,3;claim 10 of 4,5,6,7;claim 11 of 9,10;", 12);
        faulty(nine + "claim 9 of 0,1,2,3;claim 10 of 4,5,6,7;claim 11 of 8,9,10;", 5, 129);
        good(nine + "claim 9 of 0,1,2,3,4,5,6,7;claim 10 of 9;", 11);
        good(nine + "claim 9 of 0,1,2,3,4,5,6,7;claim 9 of 0,9;", 11);

        sentence("6 more CLAIMS than there is room for (at the first letter of its word).");
        ClaimTrees x = new ClaimTrees();
        x.filing(1, 1000, 0);
        x.filing(1, 1000, 0);
        x.filing(1, 1000, 0);
        tellClaims(x, 0, plainClaims(20));
        due("the 21st of 20 places", tellClaims(x, 1, plainClaims(20) + "  claim x"), -16);
        due("the byte", x.fault(), 162);
        due("a fault before it", tellClaims(x, 1, plainClaims(19) + "claim 1 1;claim 1;"), -13);
        due("the byte", x.fault(), 160);
        due("all 20 places", tellClaims(x, 1, plainClaims(20)), 20);
        due("another word, where there is no room", tellClaims(x, 2, " claims 1;"), -11);
        due("the byte", x.fault(), 1);
        due("no room", tellClaims(x, 2, " claim"), -16);
        due("the byte", x.fault(), 1);

        sentence("A FILING has CLAIMS told once.");
        due("a filing with claims", tellClaims(x, 0, "claim 1;"), NOT);
        ClaimTrees y = new ClaimTrees();
        y.filing(1, 1000, 0);
        due("a fault tells none", tellClaims(y, 0, "claim 1 2 3"), -11);
        due("an empty text tells none", y.claims(0), 0);
        due("blanks tell none", tellClaims(y, 0, "   "), 0);
        due("so they are told now", tellClaims(y, 0, "claim 1;"), 1);
        due("and then no more, not by an empty text either", y.claims(0), NOT);
    }

    // ---- terms: versions and their days

    private static void versions() {
        sentence("VERSIONS of a CLAIM: without 'of' one: its own FEATURES.");
        ClaimTrees x = filed("claim 3 1;");
        due("one", x.claim(0, 3), 1);
        due("its own", x.version(0, 0), 10);

        sentence("for each N, in the order told, for each VERSION of N, that and its own");
        x = filed("claim 0;claim 1;claim 2 of 1,0;claim 3;claim 4 of 3,2;");
        due("of two", x.claim(2, 3), 2);
        due("of 1 first", x.version(2, 0), 6);
        due("of 0 then", x.version(2, 1), 5);
        due("of three", x.claim(4, 3), 3);
        due("of 3 first", x.version(4, 0), 24);
        due("of 2, the first", x.version(4, 1), 22);
        due("of 2, the second", x.version(4, 2), 21);

        sentence("like SETS once (the first)");
        x = filed("claim 0;claim 1;claim 0 1;claim 1 of 1,2,0;claim 0 of 2,1,0;");
        due("two of three", x.claim(3, 3), 2);
        due("the first", x.version(3, 0), 2);
        due("those of 2 and 0 are like", x.version(3, 1), 3);
        due("two of three", x.claim(4, 3), 2);
        due("the first of two like ones", x.version(4, 0), 3);
        due("the other", x.version(4, 1), 1);
        due("no third", x.version(4, 2), NONE);
        x = filed("claim 0;claim 1;claim 3;claim 2 of 0,1,2;");
        due("like by what is added later", x.narrow(0, 2), 1);
        due("still three", x.claim(3, 3), 3);
        due("now like to the first", x.narrow(1, 1), 1);
        due("two", x.claim(3, 3), 2);
        due("the first stays", x.version(3, 0), 7);
        due("the last comes up", x.version(3, 1), 12);

        sentence("ADDED FEATURES (as told below) are in all VERSIONS of it and so of those that are of it.");
        x = filed("claim 0;claim 1;claim 2 of 0,1;claim 3 of 2;claim 4 of 1;");
        x.narrow(2, 1 << 9);
        due("the first version", x.version(2, 0), 5 | 1 << 9);
        due("the second version", x.version(2, 1), 6 | 1 << 9);
        due("of it, the first", x.version(3, 0), 13 | 1 << 9);
        due("of it, the second", x.version(3, 1), 14 | 1 << 9);
        due("not what it is of", x.version(0, 0), 1);
        due("not what is beside it", x.version(4, 0), 18);
        x.narrow(0, 1 << 8);
        due("by others", x.version(3, 0), 13 | 1 << 9 | 1 << 8);
        due("those of 1 do not have it", x.version(3, 1), 14 | 1 << 9);
    }

    private static void versionDays() {
        sentence("the earliest DAY of an ELDER (not more than year DAYS before the FILING's) whose SET WITH KINDS has all its FEATURES; else that of the FILING.");
        ClaimTrees x = filed("claim 0 1;");
        due("no elder", x.day(0, 0, 0), 1000);
        x.elder(0, 1, 990);
        due("an elder that has not all", x.day(0, 0, 0), 1000);
        x.elder(0, 3, 635);
        due("year days before", x.day(0, 0, 0), 635);
        tellRules(x, 1, "year 364;");
        due("a day more than year", x.day(0, 0, 1), 1000);
        x.elder(0, 7, 636);
        due("the earliest", x.day(0, 0, 0), 635);
        due("the earliest of those that are not too old", x.day(0, 0, 1), 636);
        tellRules(x, 2, "year 0;");
        due("year 0", x.day(0, 0, 2), 1000);
        tellRules(x, 2, "year 999;");
        due("year 999", x.day(0, 0, 2), 635);
        ClaimTrees y = filed("claim 0 1;claim 2;");
        y.elder(0, 1 << 20 | 1, 1);
        y.elder(0, 4, 0);
        tellRules(y, 0, "year 999;");
        due("999 days before", y.day(0, 0, 0), 1000);
        due("1000 days before", y.day(1, 0, 0), 1000);
        y.kind(20, 21);
        due("not with these kinds", y.day(0, 0, 0), 1000);
        y.kind(21, 1);
        due("with kinds, on day 1", y.day(0, 0, 0), 1);
        y.kind(2, 3);
        due("a feature asks not for its kinds", y.day(1, 0, 0), 1000);
        ClaimTrees z = filed("claim 0;claim 1;claim 2 of 0,1;");
        z.elder(0, 5, 900);
        z.elder(0, 6, 800);
        due("each version its own day: the first", z.day(2, 0, 0), 900);
        due("the second", z.day(2, 1, 0), 800);
        z.narrow(2, 8);
        due("what is added is not in the elder", z.day(2, 0, 0), 1000);
        z.elder(0, 13, 1000);
        due("an elder of its own day", z.day(2, 0, 0), 1000);
        eldersOfEachFiling();
    }

    private static void eldersOfEachFiling() {
        ClaimTrees x = new ClaimTrees();
        for (int f = 0; f < 8; f++) {
            x.filing(ALL, 1000, 0);
            tellClaims(x, f, "claim 0;claim 1;");
            x.elder(f, 2, 900 - f);
            x.elder(f, 2, 800 - f);
            if (f % 2 == 1) {
                x.elder(f, 1, 700 - f);
            } else {
                x.elder(f, 2, 750 - f);
            }
        }
        for (int f = 0; f < 8; f++) {
            due("feature 0 of filing " + f, x.day(2 * f, 0, 0), f % 2 == 1 ? 700 - f : 1000);
            due("feature 1 of filing " + f, x.day(2 * f + 1, 0, 0), f % 2 == 1 ? 800 - f : 750 - f);
        }
    }

    // ---- terms: rules

    private static void lands() {
        sentence("3 LANDS 0 to 3 have RULES");
        ClaimTrees x = filed("claim 0;");
        x.product(1, 15, 0);
        for (int land : new int[] {0, 3}) {
            due("rules", tellRules(x, land, "most 1;"), 1);
            due("rule", x.rule(land, 0), 1);
            due("day", x.day(0, 0, land), 1000);
            due("does", x.does(0, 0, land), 0);
            due("by", x.by(0, 0, land), NONE);
            due("stands", x.stands(0, land), 1);
            due("toNarrow", x.toNarrow(0, land), 0);
            due("pay", x.pay(0, land, 20000), NONE);
            due("force", x.force(0, land, 1540), 1);
            due("falls", x.falls(0, land, 1540, 1), 1);
            due("around", x.around(0, land, 1540), 1);
            due("since", x.since(0, 0, land), 1540);
        }
        due("land 1 has its own", x.rule(1, 0), 2);
        due("fees of land 1, too", x.force(0, 1, 1540), 0);
        for (int land : new int[] {-1, 4, LOW, HIGH}) {
            due("rules", x.rules(land), UNKNOWN);
            due("rule", x.rule(land, 0), UNKNOWN);
            due("day", x.day(0, 0, land), UNKNOWN);
            due("does", x.does(0, 0, land), UNKNOWN);
            due("by", x.by(0, 0, land), UNKNOWN);
            due("stands", x.stands(0, land), UNKNOWN);
            due("toNarrow", x.toNarrow(0, land), UNKNOWN);
            due("pay", x.pay(0, land, 1), UNKNOWN);
            due("force", x.force(0, land, 1), UNKNOWN);
            due("falls", x.falls(0, land, 1, 1), UNKNOWN);
            due("around", x.around(0, land, 1), UNKNOWN);
            due("since", x.since(0, 0, land), UNKNOWN);
        }

        sentence("in a text (120 bytes at most)");
        ClaimTrees y = new ClaimTrees();
        due("119 bytes", tellRules(y, 0, "most 1;" + " ".repeat(112)), 1);
        due("120 bytes", tellRules(y, 0, " ".repeat(113) + "most 3;"), 1);
        due("121 bytes", tellRules(y, 0, " ".repeat(114) + "most 1;"), NOT);
        due("as it was", y.rule(0, 0), 3);
        due("200 bytes", feedAll(y, " ".repeat(79)), 200);
        due("200 bytes", y.rules(0), NOT);
    }

    private static void ruleClauses() {
        sentence("clause = 'most' N ';' 'year' N ';' 'grace' N ';' 'secret' yes ';' 'known' F ';' 'term' N ';'");
        goodRules("", 0);
        goodRules("most 1;year 2;grace 3;secret no;known 4;term 5;", 6);
        goodRules("term 5;known 4;secret yes;grace 3;year 2;most 1;", 6);
        for (String word : "most year grace known term secret".split(" ")) {
            String value = word.equals("secret") ? "no" : "1";
            int end = word.length();
            goodRules(word + " " + value + ";", 1);
            faultyRules(word + ";", 1, end);
            faultyRules(word, 1, end);
            faultyRules(word + " " + value, 1, end + 1 + value.length());
            faultyRules(word + " " + value + ",", 1, end + 1 + value.length());
            faultyRules(word + " " + value + " " + value + ";", 1, end + 2 + value.length());
            faultyRules(word + " " + value + ";;", 1, end + 2 + value.length());
            faultyRules(word + "s " + value + ";", 1, 0);
            faultyRules(word.substring(1) + " " + value + ";", 1, 0);
            faultyRules("z" + word.substring(1) + " " + value + ";", 1, 0);
            faultyRules(word.substring(0, end - 1) + "z " + value + ";", 1, 0);
            faultyRules(word.substring(0, end - 1) + " " + value + ";", 1, 0);
        }
        faultyRules("claim 1;", 1, 0);
        faultyRules("5;", 1, 0);
        faultyRules("most 1;x", 1, 7);

        sentence("yes = 'yes' | 'no'");
        ClaimTrees x = new ClaimTrees();
        due("no", tellRules(x, 0, "secret no;"), 1);
        due("no is 0", x.rule(0, 3), 0);
        due("yes", tellRules(x, 0, "secret yes;"), 1);
        due("yes is 1", x.rule(0, 3), 1);
        faultyRules("secret y;", 1, 7);
        faultyRules("secret non;", 1, 7);
        faultyRules("secret n;", 1, 7);
        faultyRules("secret yess;", 1, 7);
        faultyRules("secret zes;", 1, 7);
        faultyRules("secret zo;", 1, 7);
        faultyRules("secret 1;", 1, 7);
        faultyRules("secret No;", 1, 7);
        faultyRules("most yes;", 1, 5);
    }

    /** Both sides of both bounds of a rule. */
    private static void ruleBounds(String word, int what, int least, int highest) {
        ClaimTrees x = new ClaimTrees();
        due(word + " " + least, tellRules(x, 1, word + " " + least + ";"), 1);
        due(word + " is the least", x.rule(1, what), least);
        due(word + " " + highest, tellRules(x, 1, word + " " + highest + ";"), 1);
        due(word + " is the highest", x.rule(1, what), highest);
        due(word + " " + (highest + 1), tellRules(x, 1, word + " " + (highest + 1) + ";"), -12);
        due("its byte", x.fault(), word.length() + 1);
        due(word + " as it was", x.rule(1, what), highest);
        if (least > 0) {
            due(word + " " + (least - 1), tellRules(x, 1, word + " " + (least - 1) + ";"), -12);
            due("its byte", x.fault(), word.length() + 1);
            due(word + " as it was", x.rule(1, what), highest);
        }
    }

    private static void ruleValues() {
        sentence("most 2 (1 .. 3)");
        ruleBounds("most", 0, 1, 3);
        sentence("year 365 (0 .. 999)");
        ruleBounds("year", 1, 0, 999);
        sentence("grace 0 (0 .. 999)");
        ruleBounds("grace", 2, 0, 999);
        sentence("term 7300 (1 .. 9999)");
        ruleBounds("term", 4, 1, 9999);
        sentence("known FEATURES none");
        ClaimTrees k = new ClaimTrees();
        due("none", k.rule(0, 5), 0);
        due("known 0 and 29", tellRules(k, 0, "known 0;known 29;"), 2);
        due("both", k.rule(0, 5), 1 << 29 | 1);
        due("known 30", tellRules(k, 0, "known 1;known 30;"), -12);
        due("the byte", k.fault(), 14);
        due("as they were", k.rule(0, 5), 1 << 29 | 1);

        sentence("At first, and what a text does not tell");
        int[] atFirst = {2, 365, 0, 1, 7300, 0};
        String[] others = {"most 1;", "year 1;", "grace 1;", "secret no;", "term 1;", "known 1;"};
        int[] told = {1, 1, 1, 0, 1, 2};
        for (int clause = 0; clause < 6; clause++) {
            ClaimTrees x = new ClaimTrees();
            tellRules(x, 2, "most 3;year 7;grace 7;secret no;known 7;term 7;");
            due(others[clause], tellRules(x, 2, others[clause]), 1);
            for (int what = 0; what < 6; what++) {
                due("rule " + what + " behind " + others[clause], x.rule(2, what), what == clause ? told[what] : atFirst[what]);
                due("rule " + what + " of another land", x.rule(1, what), atFirst[what]);
            }
            due("an empty text", x.rules(2), 0);
            for (int what = 0; what < 6; what++) {
                due("rule " + what + " behind an empty text", x.rule(2, what), atFirst[what]);
            }
        }

        sentence("NUMBERS have one to four figures; FAULTS 1, 2 (of five figures) likewise");
        goodRules("most 3;year 03;grace 003;term 0003;known 0029;", 5);
        faultyRules("most 00003;", 2, 5);
        faultyRules("year 00003;", 2, 5);
        faultyRules("grace 00003;", 2, 6);
        faultyRules("term 10000;", 2, 5);
        faultyRules("known 00003;", 2, 6);
        faultyRules("term 4294967297;", 2, 5);
        faultyRules("most 18446744073709551617;", 2, 5);
        faultyRules("most 1 00001;", 1, 7);

        sentence("3 a clause (but known) again (at its first letter).");
        for (String clause : "most 1;|year 1;|grace 1;|term 1;|secret no;".split("\\|")) {
            faultyRules(clause + "known 1; " + clause, 3, clause.length() + 9);
            faultyRules(clause + clause.substring(0, clause.indexOf(' ')), 3, clause.length());
        }
        goodRules("known 1;known 1;known 2;", 3);
    }

    // ---- terms: what counts, taken, easy

    private static void papersThatCount() {
        sentence("A PAPER COUNTS against a VERSION, if its DAY is more than grace DAYS before the VERSION's DAY.");
        ClaimTrees x = filed("claim 0;");
        x.paper(1, 1000, 0);
        x.paper(1, 1001, 0);
        due("on its day, and behind it", x.does(0, 0, 0), 0);
        x.paper(1, 999, 0);
        due("a day before", x.does(0, 0, 0), 1);
        tellRules(x, 1, "grace 1;");
        due("a day before, grace 1", x.does(0, 0, 1), 0);
        x.paper(1, 998, 0);
        due("two days before, grace 1", x.by(0, 0, 1), 3);
        x.paper(1, 1, 0);
        tellRules(x, 1, "grace 998;");
        due("999 days before, grace 998", x.by(0, 0, 1), 4);
        tellRules(x, 1, "grace 999;");
        due("999 days before, grace 999", x.does(0, 0, 1), 0);
        x.paper(1, 0, 0);
        due("1000 days before, grace 999", x.by(0, 0, 1), 5);
        ClaimTrees y = filed("claim 0;");
        y.paper(1, 900, 0);
        due("before the filing's day", y.does(0, 0, 0), 1);
        y.elder(0, 1, 900);
        due("on the version's day", y.does(0, 0, 0), 0);
        y.paper(1, 899, 0);
        due("a day before the version's", y.by(0, 0, 0), 1);
        tellRules(y, 0, "year 99;");
        due("the day is the filing's again", y.by(0, 0, 0), 0);
        ClaimTrees z = filed("claim 0 1;");
        z.paper(1, 990, 0);
        z.paper(2, 989, 0);
        tellRules(z, 0, "grace 9;");
        due("both count to make it easy", z.does(0, 0, 0), 2);
        tellRules(z, 0, "grace 10;");
        due("one does not", z.does(0, 0, 0), 0);
        ClaimTrees late = filed("claim 0 1 2;");
        tellRules(late, 0, "most 3;");
        late.paper(3, 1000, 0);
        late.paper(1, 900, 0);
        late.paper(2, 900, 0);
        late.paper(4, 900, 0);
        due("two would be enough, if the first one counted", late.by(0, 0, 0), 14);
        late.paper(3, 999, 0);
        due("one that counts", late.by(0, 0, 0), 24);
        ClaimTrees zero = new ClaimTrees();
        zero.filing(1, 0, 0);
        tellClaims(zero, 0, "claim 0;");
        zero.paper(1, 0, 0);
        due("none is before day 0", zero.does(0, 0, 0), 0);
    }

    private static void filingsThatCount() {
        sentence("(secret yes) a FILING with a lesser DAY than the VERSION's, not its own, that is SHOWN behind it (SHOWN DAY above, or on, the VERSION's DAY), COUNTS as TAKEN alone, with its TEXT.");
        int[] days = {1001, 1000, 999, 461, 460, 459, 0};
        int[] does = {0, 0, 1, 1, 1, 0, 0};
        for (int i = 0; i < days.length; i++) {
            ClaimTrees x = filed("claim 0 1;");
            x.filing(3, days[i], 4);
            due("a filing of day " + days[i], x.does(0, 0, 0), does[i]);
            due("by it", x.by(0, 0, 0), does[i] == 1 ? 101 : NONE);
            tellRules(x, 0, "secret no;");
            due("secret no, day " + days[i], x.does(0, 0, 0), 0);
            tellRules(x, 0, "secret yes;grace 999;");
            due("grace is of papers, day " + days[i], x.does(0, 0, 0), does[i]);
        }
        ClaimTrees own = filed("claim 0;");
        own.elder(0, 1, 900);
        due("its own", own.does(0, 0, 0), 0);
        ClaimTrees y = filed("claim 0 1;");
        y.elder(0, 3, 900);
        y.filing(3, 900, 0);
        due("a lesser day than the filing's, not than the version's", y.does(0, 0, 0), 0);
        y.filing(3, 360, 0);
        due("shown on the version's day", y.by(0, 0, 0), 102);
        tellRules(y, 0, "year 0;");
        due("by the filing's day the other one", y.by(0, 0, 0), 101);
        ClaimTrees t = filed("claim 0 1;");
        t.filing(1, 900, 0);
        t.elder(1, 3, 900);
        due("its text has not all, though its elder has", t.does(0, 0, 0), 0);
        t.filing(2, 900, 0);
        t.paper(2, 900, 0);
        due("alone: not two, nor with papers", t.does(0, 0, 0), 0);
        tellRules(t, 1, "known 1;");
        due("alone: not with known ones", t.does(0, 0, 1), 0);
        t.kind(0, 1);
        due("with kinds", t.by(0, 0, 0), 101);
    }

    private static void taken() {
        sentence("TAKEN is a VERSION, if a PAPER that COUNTS (or such a FILING) has all its FEATURES WITH KINDS.");
        ClaimTrees x = filed("claim 0 1;claim 2;");
        x.paper(1, 900, 0);
        due("all but one", x.does(0, 0, 0), 0);
        x.paper(3, 900, 3);
        due("all, in a field that is not near", x.does(0, 0, 0), 1);
        x.paper(1 << 20, 900, 3);
        due("not of this kind", x.does(1, 0, 0), 0);
        x.kind(20, 2);
        due("of this kind", x.by(1, 0, 0), 2);
        ClaimTrees y = filed("claim 2;");
        y.kind(2, 3);
        y.paper(8, 900, 0);
        due("what has the kind has not the feature", y.does(0, 0, 0), 0);
        y.paper(4, 900, 0);
        due("a feature asks not for its kinds", y.by(0, 0, 0), 1);
    }

    private static void easy() {
        sentence("EASY it is, if it is not TAKEN, and there are up to most PAPERS that COUNT");
        for (int most = 1; most <= 3; most++) {
            ClaimTrees x = filed("claim 0 1 2 3;");
            tellRules(x, 0, "most " + most + ";known 3;");
            x.paper(1, 900, 0);
            x.paper(2, 900, 0);
            x.paper(4, 900, 0);
            due("three papers, most " + most, x.does(0, 0, 0), most < 3 ? 0 : 2);
            due("they", x.by(0, 0, 0), most < 3 ? NONE : 7);
            x.paper(6, 900, 0);
            due("two papers, most " + most, x.does(0, 0, 0), most < 2 ? 0 : 2);
            due("they", x.by(0, 0, 0), most < 2 ? NONE : 9);
            x.paper(7, 900, 0);
            due("one paper, most " + most, x.does(0, 0, 0), 2);
            due("it", x.by(0, 0, 0), 16);
            x.paper(15, 900, 4);
            due("taken is not easy, most " + most, x.does(0, 0, 0), 1);
            due("the taker", x.by(0, 0, 0), 5);
        }
        ClaimTrees four = filed("claim 0 1 2 3;");
        tellRules(four, 0, "most 3;");
        for (int f = 0; f < 4; f++) {
            four.paper(1 << f, 900, 0);
        }
        due("four papers, most 3", four.does(0, 0, 0), 0);

        sentence("of FIELDS that all are NEAR to one another, the FIELD of the FILING to each");
        for (int links = 0; links < 8; links++) {
            ClaimTrees x = filed("claim 0 1;");
            x.paper(1, 900, 1);
            x.paper(2, 900, 2);
            x.near(0, 1, (links & 1) != 0);
            x.near(2, 0, (links & 2) != 0);
            x.near(1, 2, (links & 4) != 0);
            due("links " + links, x.does(0, 0, 0), links == 7 ? 2 : 0);
        }
        for (int off = 0; off < 6; off++) {
            int[] a = {0, 0, 0, 1, 1, 2};
            int[] b = {1, 2, 3, 2, 3, 3};
            ClaimTrees x = filed("claim 0 1 2;");
            tellRules(x, 0, "most 3;");
            for (int f = 0; f < 3; f++) {
                x.paper(1 << f, 900, f + 1);
            }
            for (int i = 0; i < 6; i++) {
                x.near(a[i], b[i], true);
            }
            due("all near", x.by(0, 0, 0), 7);
            x.near(a[off], b[off], false);
            due("all but " + a[off] + " and " + b[off], x.does(0, 0, 0), 0);
        }
    }

    private static void easyByKnown() {
        sentence("that together, with known FEATURES (WITH KINDS), have all its FEATURES. (known ones alone: EASY, too.)");
        ClaimTrees x = filed("claim 0 1;claim 2;");
        tellRules(x, 0, "known 0;");
        due("not all known", x.does(0, 0, 0), 0);
        tellRules(x, 0, "known 0;known 1;");
        due("all known", x.does(0, 0, 0), 2);
        due("no papers", x.by(0, 0, 0), 0);
        due("it does not stand", x.stands(0, 0), 0);
        tellRules(x, 0, "known 20;");
        due("not of a kind yet", x.does(1, 0, 0), 0);
        x.kind(20, 21);
        x.kind(21, 2);
        due("known ones with kinds", x.does(1, 0, 0), 2);
        due("no papers", x.by(1, 0, 0), 0);
        due("a paper that has it, of a field not near", x.paper(4, 900, 4), 0);
        due("taken, though known", x.does(1, 0, 0), 1);
        ClaimTrees y = filed("claim 0 1;");
        y.paper(1 << 20, 900, 0);
        y.paper(1 << 21, 900, 0);
        due("not of these kinds", y.does(0, 0, 0), 0);
        y.kind(20, 0);
        y.kind(21, 1);
        due("papers with kinds", y.by(0, 0, 0), 3);

        sentence("The PAPERS: the fewest, of like ones the first by numbers.");
        ClaimTrees z = filed("claim 0 1 2;");
        tellRules(z, 0, "most 3;");
        z.paper(1, 900, 0);
        z.paper(2, 900, 0);
        z.paper(4, 900, 0);
        due("three", z.by(0, 0, 0), 7);
        z.paper(5, 900, 0);
        due("two are fewer", z.by(0, 0, 0), 10);
        z.paper(3, 900, 0);
        due("of like ones: the second paper is 3, not 4", z.by(0, 0, 0), 10);
        z.paper(6, 900, 0);
        due("the first paper is 0, not 1", z.by(0, 0, 0), 33);
        ClaimTrees last = filed("claim 0 1;");
        for (int p = 0; p < 22; p++) {
            last.paper(1 << 25, 900, 0);
        }
        last.paper(1, 900, 0);
        last.paper(2, 900, 0);
        due("the last two of 24", last.by(0, 0, 0), 3 << 22);

        sentence("A CLAIM STANDS in a LAND, if none of its VERSIONS is TAKEN or EASY.");
        ClaimTrees s = filed("claim 0;claim 1;claim 2;claim 3 of 0,1,2;");
        tellRules(s, 1, "known 3;known 0;");
        tellRules(s, 2, "known 3;known 2;");
        due("none", s.stands(3, 0), 1);
        due("the first is easy", s.stands(3, 1), 0);
        due("the last is easy", s.stands(3, 2), 0);
        s.paper(10, 900, 4);
        due("one between is taken", s.stands(3, 0), 0);
        due("another claim", s.stands(2, 0), 1);
    }

    // ---- terms: narrowing, fees, products

    private static void narrowing() {
        sentence("A CLAIM may be NARROWED by FEATURES that the TEXT of its FILING has (WITH KINDS), more in all its VERSIONS.");
        ClaimTrees x = filed("claim 0;claim 1 of 0;");
        due("the last of the text", x.narrow(0, 1 << 19), 1);
        due("behind the last of the text", x.narrow(0, 1 << 20), NOT);
        due("one of two", x.narrow(0, 1 << 20 | 4), NOT);
        x.elder(0, ALL, 900);
        due("an elder is not the text", x.narrow(0, 1 << 20), NOT);
        x.filing(ALL, 1000, 0);
        due("nor is another filing", x.narrow(0, 1 << 20), NOT);
        x.kind(20, 19);
        due("what is of a kind in the text is not in it", x.narrow(0, 1 << 20), NOT);
        x.kind(19, 21);
        due("a kind of the text's is", x.narrow(0, 1 << 21), 2);
        x.kind(21, 29);
        due("and that one's", x.narrow(0, 1 << 29), 3);
        due("the versions", x.version(0, 0), 1 | 1 << 19 | 1 << 21 | 1 << 29);
        due("by none", x.narrow(0, 0), 3);

        sentence("the fewest FEATURES so that it STANDS then; of like ones the least SET");
        ClaimTrees y = filed("claim 0;");
        due("it stands", y.toNarrow(0, 0), 0);
        y.paper(1, 900, 0);
        due("one, the least", y.toNarrow(0, 0), 2);
        y.paper(2, 900, 0);
        due("one, the next", y.toNarrow(0, 0), 4);
        tellRules(y, 0, "most 1;");
        y.paper(1 | 8 | 16 | 32 | 64 | 128 | 256, 900, 0);
        due("one is enough", y.toNarrow(0, 0), 2);
        y.paper(1 | 2 | 4, 900, 0);
        due("two, the least", y.toNarrow(0, 0), 2 | 8);
        y.paper(1 | 2 | 8 | 16 | 32 | 64 | 128 | 256, 900, 0);
        due("two: 2 and 3, not 1 and 3, nor 1 and 8", y.toNarrow(0, 0), 4 | 8);

        sentence("(of FEATURES of the TEXT itself that are not in all its VERSIONS; the first 8 of these by numbers are looked at)");
        ClaimTrees z = filed("claim 0;");
        z.paper(1 | 0xfe, 900, 4);
        due("the eighth", z.toNarrow(0, 0), 1 << 8);
        z.paper(1 | 0x1fe, 900, 4);
        due("not the ninth", z.toNarrow(0, 0), NONE);
        z.narrow(0, 2);
        due("what is in all versions is not looked at, so the ninth is", z.toNarrow(0, 0), 1 << 9);
        ClaimTrees some = filed("claim 0;claim 1;claim 2 of 0,1;");
        some.paper(0x1ff, 900, 4);
        due("features 0, 1 and 3 to 8", some.toNarrow(2, 0), NONE);
        some.narrow(2, 3);
        due("features 3 to 10", some.toNarrow(2, 0), 1 << 9);
        ClaimTrees kinds = new ClaimTrees();
        kinds.filing(1 | 4, 1000, 0);
        tellClaims(kinds, 0, "claim 0;");
        kinds.kind(2, 1);
        kinds.paper(1, 900, 0);
        due("not a kind of the text's, though it would do", kinds.toNarrow(0, 0), 4);
        kinds.paper(5, 900, 0);
        due("none", kinds.toNarrow(0, 0), NONE);
    }

    private static void fees() {
        sentence("FEES of a FILING in a LAND are paid until a DAY (none at first): it is in force there from its SHOWN DAY to that (with both), on DAYS less than term behind its own.");
        ClaimTrees x = filed("claim 0;");
        for (int day : new int[] {0, 1540, 20000}) {
            due("none paid", x.force(0, 0, day), 0);
        }
        due("none until now", x.pay(0, 0, 1540), NONE);
        due("before it is shown", x.force(0, 0, 1539), 0);
        due("the one day", x.force(0, 0, 1540), 1);
        due("behind it", x.force(0, 0, 1541), 0);
        due("until a day before it is shown", x.pay(0, 0, 1539), 1540);
        due("then never", x.force(0, 0, 1539) + x.force(0, 0, 1540), 0);
        due("until the last", x.pay(0, 0, 20000), 1539);
        due("7299 days behind", x.force(0, 0, 8299), 1);
        due("7300 days behind", x.force(0, 0, 8300), 0);
        tellRules(x, 0, "term 541;");
        due("540 days behind, term 541", x.force(0, 0, 1540), 1);
        due("541 days behind, term 541", x.force(0, 0, 1541), 0);
        tellRules(x, 0, "term 540;");
        due("540 days behind, term 540", x.force(0, 0, 1540), 0);
        tellRules(x, 0, "term 1;");
        due("0 days behind, term 1", x.force(0, 0, 1000), 0);
        tellRules(x, 0, "term 9999;");
        due("9998 days behind, term 9999", x.force(0, 0, 10998), 1);
        due("9999 days behind, term 9999", x.force(0, 0, 10999), 0);
        x.elder(0, 1, 800);
        due("of its own day, not an elder's", x.force(0, 0, 10998), 1);
        due("shown by its own day", x.force(0, 0, 1539), 0);
        x.filing(1, 1000, 0);
        due("another filing", x.force(1, 0, 1540), 0);
        due("another land", x.force(0, 1, 1540), 0);
    }

    private static void fallingUnder() {
        sentence("PRODUCTS (12 at most): a SET of FEATURES, in a SET of LANDS, from a DAY on.");
        ClaimTrees x = filed("claim 0 1;claim 2;claim 3 of 0,1;");
        for (int land = 0; land < 4; land++) {
            x.pay(0, land, 9000);
        }
        x.product(3, 9, 2000);
        for (int land = 0; land < 4; land++) {
            due("in land " + land, x.falls(0, land, 2000, 1), land == 0 || land == 3 ? 1 : 0);
        }
        due("a day before", x.falls(0, 0, 1999, 1), 0);
        due("a day behind", x.falls(0, 0, 2001, 1), 1);

        sentence("if it is there by then, the FILING is in force, the CLAIM STANDS, and it has all FEATURES of a VERSION WITH KINDS.");
        x.product(3, 15, 0);
        due("before it is in force", x.falls(1, 0, 1539, 1), 0);
        due("from when it is", x.falls(1, 0, 1540, 1), 1);
        due("to when it is", x.falls(1, 0, 8299, 1), 1);
        due("no more", x.falls(1, 0, 8300, 1), 0);
        x.product(1, 15, 0);
        due("all but one", x.falls(2, 0, 2000, 1), 0);
        x.product(12, 15, 0);
        due("the second version of one, and another claim", x.falls(3, 0, 2000, 1), 2);
        x.product(8 | 1 << 25, 15, 0);
        due("of no kind yet", x.falls(4, 0, 2000, 0), NONE);
        x.kind(25, 26);
        x.kind(26, 2);
        due("with kinds", x.falls(4, 0, 2000, 0), 1);
        tellRules(x, 1, "known 2;");
        due("what does not stand", x.falls(4, 1, 2000, 0), 2);
        tellRules(x, 1, "known 2;known 3;");
        due("nor that which has an easy version", x.falls(4, 1, 2000, 0), NONE);

        sentence("the fewest FEATURES of its own (12 at most are looked at, the first ones) to leave out so that it falls under no CLAIM in a LAND on a DAY; of like ones the least SET.");
        ClaimTrees y = new ClaimTrees();
        y.filing(ALL, 1000, 0);
        tellClaims(y, 0, "claim 11 13;claim 12 13;");
        y.pay(0, 0, 9000);
        y.product(1 << 11 | 1 << 13, 1, 0);
        due("one, the least", y.around(0, 0, 2000), 1 << 11);
        y.product(0x3fff, 1, 0);
        due("neither the 13th nor the 14th is looked at", y.around(1, 0, 2000), NONE);
        y.product(0x3ffe, 1, 0);
        due("the 12th is, the 13th is not", y.around(2, 0, 2000), 1 << 11 | 1 << 12);
        y.product(0x3ffc, 1, 0);
        due("the 12th: one for both", y.around(3, 0, 2000), 1 << 13);
        due("on a day ahead", y.around(3, 0, 1539), 0);
        ClaimTrees z = filed("claim 0 1;claim 2 3;claim 4;claim 5 of 2;");
        z.pay(0, 0, 9000);
        z.product(15, 1, 0);
        due("two, the least of four", z.around(0, 0, 2000), 5);
        z.product(31, 1, 0);
        due("three", z.around(1, 0, 2000), 1 | 4 | 16);
        z.kind(3, 1);
        due("a kind must go with all that have it: 0 and 2 are the least still", z.around(0, 0, 2000), 5);
        z.kind(2, 0);
        due("all but what the others bring", z.around(0, 0, 2000), 5);
        z.product(12, 1, 0);
        due("of its own: kinds are not left out", z.around(2, 0, 2000), 4);
    }

    // ---- the promises

    private static void promisesOfFeatures() {
        promise(1, "No PAPERS, no FILINGS; RULES as at first.");
        ClaimTrees x = new ClaimTrees();
        for (int what = 0; what < 6; what++) {
            due("count " + what, x.count(what), 0);
        }
        int[] atFirst = {2, 365, 0, 1, 7300, 0};
        for (int land = 0; land < 4; land++) {
            for (int what = 0; what < 6; what++) {
                due("rule " + land + " " + what, x.rule(land, what), atFirst[what]);
            }
        }
        due("fault", x.fault(), NONE);
        due("with", x.with(ALL), ALL);

        promise(2, "how many it has WITH KINDS. UNKNOWN; NOT: it has one, or it would come round.");
        due("itself and one", x.kind(4, 5), 2);
        due("what it brings counts", x.kind(3, 4), 3);
        due("not what brings it", x.kind(5, 6), 2);
        due("it has one", x.kind(3, 9), NOT);
        due("round", x.kind(6, 3), NOT);

        promise(3, "A SET WITH KINDS. UNKNOWN (bits).");
        due("of one", x.with(8), 8 | 16 | 32 | 64);
        due("of two", x.with(16 | 1), 1 | 16 | 32 | 64);
        due("of none", x.with(0), 0);
        due("bit 30 with others", x.with(1 << 30 | 8), UNKNOWN);
        due("bit 31 with others", x.with(LOW | 8), UNKNOWN);

        promise(4, "FIELDS are NEAR (is = true) or not: what they were (1, 0). OUTSIDE (one twice, too).");
        due("they were not", x.near(1, 3, true), 0);
        due("they were", x.near(1, 3, true), 1);
        due("either way", x.near(3, 1, false), 1);
        due("no more", x.near(1, 3, false), 0);
        for (int field = 0; field < 5; field++) {
            due("one twice", x.near(field, field, true), OUTSIDE);
            due("one twice, not", x.near(field, field, false), OUTSIDE);
        }

        promise(5, "A PAPER: its number. UNKNOWN (bits), OUTSIDE, FULL.");
        due("no features", x.paper(0, 0, 0), 0);
        due("all features", x.paper(ALL, 20000, 4), 1);
        due("bits", x.paper(1 << 30, 0, 0), UNKNOWN);
        due("bits", x.paper(LOW, 0, 0), UNKNOWN);

        promise(6, "A FILING: its number. UNKNOWN (bits), OUTSIDE, FULL.");
        due("no features", x.filing(0, 0, 0), 0);
        due("all features", x.filing(ALL, 20000, 4), 1);
        due("bits", x.filing(1 << 30, 0, 0), UNKNOWN);
        due("bits", x.filing(LOW, 0, 0), UNKNOWN);

        promise(7, "An ELDER of a FILING: how many it has. UNKNOWN, OUTSIDE (DAY; after that of the FILING, too), FULL.");
        due("of a filing that is not", x.elder(2, 1, 0), UNKNOWN);
        due("of -1", x.elder(-1, 1, 0), UNKNOWN);
        due("bits", x.elder(0, 1 << 30, 0), UNKNOWN);
        due("after", x.elder(0, 1, 1), OUTSIDE);
        due("on its day", x.elder(0, 1, 0), 1);
        due("no features", x.elder(1, 0, 20000), 1);
        due("all features", x.elder(1, ALL, 0), 2);
        due("beyond days", x.elder(1, 0, 20001), OUTSIDE);

        promise(8, "How many: 0 PAPERS, 1 FILINGS, 2 CLAIMS, 3 PRODUCTS, 4 bytes of THE TEXT, 5 FEATURES of a KIND. OUTSIDE.");
        tellClaims(x, 1, "claim 0;claim 1;claim 2;claim 3;");
        for (int p = 0; p < 5; p++) {
            x.product(1, 1, 1);
        }
        x.feed(7, 0);
        int[] counts = {2, 2, 4, 5, 7, 3};
        for (int what = 0; what < 6; what++) {
            due("count " + what, x.count(what), counts[what]);
        }
        for (int what : new int[] {-1, 6, LOW, HIGH}) {
            due("count " + what, x.count(what), OUTSIDE);
        }
    }

    private static void promisesOfTexts() {
        promise(9, "Up to eight bytes (n 1 .. 8) of a long, the highest of these first, come behind THE TEXT (200 at most): how many it has. OUTSIDE, FULL.");
        ClaimTrees x = new ClaimTrees();
        x.filing(ALL, 1000, 0);
        for (int n : new int[] {0, -1, 9, LOW, HIGH}) {
            due("feed " + n, x.feed(n, 0), OUTSIDE);
        }
        due("eight", x.feed(8, 0x636c61696d203132L), 8);
        due("one, the lowest", x.feed(1, 0x636c61696d20313bL), 9);
        due("read", x.claims(0), 1);
        due("12", x.claim(0, 1), 1 << 12);
        ClaimTrees y = new ClaimTrees();
        due("192", feedAll(y, " ".repeat(192)), 192);
        due("199", y.feed(7, 0), 199);
        due("two more", y.feed(2, 0), FULL);
        due("eight more", y.feed(8, 0), FULL);
        due("one more", y.feed(1, 0), 200);
        due("one more", y.feed(1, 0), FULL);
        ClaimTrees z = new ClaimTrees();
        feedAll(z, " ".repeat(192));
        due("eight, to the last", z.feed(8, -1L), 200);

        promise(10, "how many; -10 less the number of its FAULT (none are there). UNKNOWN; NOT: it has CLAIMS (THE TEXT stays, of both).");
        ClaimTrees c = new ClaimTrees();
        due("no filing", tellClaims(c, 0, "claim 1;claim 2;"), UNKNOWN);
        due("the text stays", c.count(4), 16);
        c.filing(1, 1, 1);
        c.filing(1, 1, 1);
        due("that text", c.claims(0), 2);
        due("it is empty then", c.count(4), 0);
        due("it has claims", tellClaims(c, 0, "claim 3;claim 4 x"), NOT);
        due("the text stays", c.count(4), 17);
        due("that text has a fault", c.claims(1), -11);
        due("it is empty then, too", c.count(4), 0);
        due("none are there", c.count(2), 2);
        due("none are there", c.first(1), NONE);
        due("filing -1", c.claims(-1), UNKNOWN);
        due("filing 2", c.claims(2), UNKNOWN);
        due("a fault behind claims that are of others", tellClaims(c, 1, "claim 3;claim 4 of 0;claim 5 of 1;claim 6 of 2 x"), -11);
        due("others in their stead", tellClaims(c, 1, "claim 7;claim 8;claim 9;claim 10 of 0;"), 4);
        for (int what = 2; what < 6; what++) {
            due("of claim " + what, c.claim(what, 4), what == 2 ? 1 : 0);
            due("version of claim " + what, c.version(what, 0), what == 5 ? 1 << 10 | 1 << 7 : 1 << what + 5);
        }

        promise(11, "how many clauses; -10 less the number of its FAULT (they are as they were). UNKNOWN, NOT: above 120 bytes (THE TEXT stays).");
        due("two", tellRules(c, 1, "most 3;known 4;"), 2);
        due("it is empty then", c.count(4), 0);
        due("a fault", tellRules(c, 1, "most 1;known 5;term 5;grace 9999;"), -12);
        due("it is empty then, too", c.count(4), 0);
        int[] asTheyWere = {3, 365, 0, 1, 7300, 16};
        for (int what = 0; what < 6; what++) {
            due("rule " + what, c.rule(1, what), asTheyWere[what]);
        }
        due("no land", tellRules(c, 4, "most 1;"), UNKNOWN);
        due("the text stays", c.count(4), 7);
        feedAll(c, " ".repeat(114));
        due("121 bytes", c.rules(1), NOT);
        due("the text stays", c.count(4), 121);

        promise(12, "The byte of the FAULT of the latest claims() or rules() that was not refused otherwise; NONE.");
        ClaimTrees f = new ClaimTrees();
        due("none yet", f.fault(), NONE);
        due("a fault of rules", tellRules(f, 0, "most 9;"), -12);
        due("its byte", f.fault(), 5);
        due("refused", f.claims(0), UNKNOWN);
        due("refused", f.rules(4), UNKNOWN);
        due("its byte still", f.fault(), 5);
        f.filing(1, 1, 1);
        due("a fault of claims", tellClaims(f, 0, "x"), -11);
        due("its byte", f.fault(), 0);
        due("claims", tellClaims(f, 0, "claim 1;"), 1);
        due("none", f.fault(), NONE);
        due("a fault of rules", tellRules(f, 0, "most 9;"), -12);
        due("rules", tellRules(f, 0, "most 1;"), 1);
        due("none", f.fault(), NONE);
        due("a fault of rules", tellRules(f, 0, "most"), -11);
        due("refused", f.claims(0), NOT);
        feedAll(f, " ".repeat(121));
        due("refused", f.rules(0), NOT);
        due("its byte still", f.fault(), 4);
        f.filing(1, 1, 1);
        due("blanks", f.claims(1), 0);
        due("none", f.fault(), NONE);

        promise(13, "what = 0 most, 1 year, 2 grace, 3 secret (1, 0), 4 term, 5 the SET of known FEATURES. UNKNOWN, OUTSIDE.");
        ClaimTrees r = new ClaimTrees();
        tellRules(r, 3, "most 3;year 11;grace 12;secret no;term 13;known 14;known 2;");
        int[] values = {3, 11, 12, 0, 13, 1 << 14 | 4};
        for (int what = 0; what < 6; what++) {
            due("rule " + what, r.rule(3, what), values[what]);
        }
        for (int what : new int[] {-1, 6, LOW, HIGH}) {
            due("rule " + what, r.rule(3, what), OUTSIDE);
        }
    }

    private static void promisesOfClaims() {
        promise(14, "The first CLAIM of a FILING; NONE. UNKNOWN.");
        ClaimTrees x = new ClaimTrees();
        due("no filing", x.first(0), UNKNOWN);
        x.filing(ALL, 1000, 0);
        x.filing(ALL, 1000, 0);
        due("none", x.first(0), NONE);
        tellClaims(x, 0, "claim 0;claim 1 of 0;claim 2 of 1;claim 3 of 2,0;claim 4;");
        tellClaims(x, 1, "claim 5;claim 6 of 0;");
        due("the first", x.first(0), 0);
        due("of the second filing", x.first(1), 5);
        due("filing 2", x.first(2), UNKNOWN);
        due("filing -1", x.first(-1), UNKNOWN);

        promise(15, "what = 0 its FILING, 1 its own FEATURES, 2 ADDED ones, 3 VERSIONS, 4 CLAIMS that are of it, straight or by others. UNKNOWN, OUTSIDE.");
        x.narrow(3, 1 << 9 | 1 << 10);
        int[] third = {0, 8, 1 << 9 | 1 << 10, 2, 0};
        for (int what = 0; what < 5; what++) {
            due("claim 3, " + what, x.claim(3, what), third[what]);
        }
        int[] hanging = {3, 2, 1, 0, 0, 1, 0};
        for (int c = 0; c < 7; c++) {
            due("of claim " + c, x.claim(c, 4), hanging[c]);
            due("filing of claim " + c, x.claim(c, 0), c < 5 ? 0 : 1);
        }
        for (int what : new int[] {-1, 5, LOW, HIGH}) {
            due("what " + what, x.claim(0, what), OUTSIDE);
        }
        for (int c : new int[] {-1, 7, 40, LOW, HIGH}) {
            due("claim " + c, x.claim(c, 0), UNKNOWN);
            due("version of " + c, x.version(c, 0), UNKNOWN);
            due("day of " + c, x.day(c, 0, 0), UNKNOWN);
            due("does " + c, x.does(c, 0, 0), UNKNOWN);
            due("by " + c, x.by(c, 0, 0), UNKNOWN);
            due("stands " + c, x.stands(c, 0), UNKNOWN);
            due("wider a " + c, x.wider(c, 0), UNKNOWN);
            due("wider b " + c, x.wider(0, c), UNKNOWN);
            due("narrow " + c, x.narrow(c, 0), UNKNOWN);
            due("toNarrow " + c, x.toNarrow(c, 0), UNKNOWN);
        }

        promise(16, "FEATURES of the i-th VERSION of a CLAIM; NONE. UNKNOWN.");
        due("the first", x.version(3, 0), 15 | 1 << 9 | 1 << 10);
        due("the last", x.version(3, 1), 9 | 1 << 9 | 1 << 10);
        promise(17, "DAY of the i-th VERSION, by RULES of a LAND; NONE. UNKNOWN.");
        due("the last", x.day(3, 1, 0), 1000);
        promise(18, "0 neither, 1 TAKEN, 2 EASY; NONE. UNKNOWN.");
        due("the last", x.does(3, 1, 0), 0);
        for (int i : new int[] {-1, 2, 7, 8, LOW, HIGH}) {
            due("version " + i, x.version(3, i), NONE);
            due("day " + i, x.day(3, i, 0), NONE);
            due("does " + i, x.does(3, i, 0), NONE);
            due("by " + i, x.by(3, i, 0), NONE);
        }
        String eight = plainClaims(8) + "claim 9 of 0,1,2,3,4,5,6,7;";
        ClaimTrees y = filed(eight);
        due("the eighth version", y.version(8, 7), 1 << 7 | 1 << 9);
        due("its day", y.day(8, 7, 3), 1000);
        due("no ninth", y.version(8, 8), NONE);
        due("no day of it", y.day(8, 8, 3), NONE);

        promise(20, "Whether a CLAIM STANDS: 1, 0. UNKNOWN.");
        due("it stands", y.stands(8, 0), 1);
        y.paper(1 << 7 | 1 << 9, 900, 3);
        due("by its eighth version it does not", y.stands(8, 0), 0);
        due("by the eighth", y.does(8, 7, 0), 1);
    }

    private static void promisesOfJudging() {
        promise(19, "TAKEN: the first PAPER, or 100 and the first FILING; EASY: the SET of PAPERS (0: known ones alone); NONE: neither, or there is none such. UNKNOWN.");
        ClaimTrees x = filed("claim 0 1;");
        due("neither", x.by(0, 0, 0), NONE);
        tellRules(x, 1, "known 0;known 1;");
        due("known ones alone", x.by(0, 0, 1), 0);
        x.paper(1, 900, 0);
        x.paper(2, 900, 0);
        due("two papers", x.by(0, 0, 0), 3);
        for (int f = 1; f < 7; f++) {
            x.filing(1, 900, 0);
        }
        x.filing(3, 900, 0);
        due("the last filing", x.by(0, 0, 0), 107);
        for (int p = 2; p < 23; p++) {
            x.paper(0, 900, 0);
        }
        x.paper(3, 900, 4);
        due("the last paper goes before filings", x.by(0, 0, 0), 23);
        ClaimTrees y = filed("claim 0;");
        y.filing(1, 990, 0);
        y.filing(1, 980, 0);
        due("the first filing by its number", y.by(0, 0, 0), 101);
        y.paper(1, 990, 0);
        y.paper(1, 980, 0);
        due("the first paper by its number", y.by(0, 0, 0), 0);
        ClaimTrees z = new ClaimTrees();
        z.filing(1, 900, 0);
        z.filing(1, 1000, 0);
        tellClaims(z, 1, "claim 0;");
        due("100 and filing 0", z.by(0, 0, 0), 100);

        promise(21, "(each VERSION of b has all FEATURES of some VERSION of a, WITH KINDS): 1, 0. UNKNOWN.");
        ClaimTrees w = filed("claim 0;claim 1;claim 2;claim 3 of 0,1;claim 0 3;claim 3 of 0,2;claim 12;");
        due("like", w.wider(0, 0), 1);
        due("fewer features are wider", w.wider(0, 4), 1);
        due("more are not", w.wider(4, 0), 0);
        due("one of two versions of b alone", w.wider(0, 3), 0);
        due("some version of a", w.wider(3, 4), 1);
        due("each its own", w.wider(3, 3), 1);
        due("one has none", w.wider(3, 5), 0);
        due("no kinds", w.wider(2, 6), 0);
        w.kind(12, 13);
        w.kind(13, 2);
        due("b with kinds", w.wider(2, 6), 1);
        due("not a with kinds", w.wider(6, 2), 0);

        promise(22, "how many FEATURES are ADDED to it in all. UNKNOWN (bits), NOT: the TEXT has not all of these; FULL: some CLAIM would have more than 8 VERSIONS then.");
        ClaimTrees n = filed(plainClaims(8) + "claim 7;claim 10 of 0,1,2,3,4,5,6,7,8;claim 11 of 9;");
        due("eight of nine", n.claim(9, 3), 8);
        due("the ninth", n.narrow(8, 1 << 12), FULL);
        due("what they share is fine", n.narrow(8, 1 << 7), 1);
        due("by one more it would have nine", n.narrow(8, 3 << 6), FULL);
        due("in all", n.narrow(9, 7), 3);
        due("in all, with one again", n.narrow(9, 12), 4);
        due("none more", n.narrow(9, 0), 4);
        due("bit 30", n.narrow(9, 1 << 30), UNKNOWN);
        due("bit 31", n.narrow(9, LOW), UNKNOWN);
        ClaimTrees late = filed(plainClaims(8) + "claim 7;claim 10 of 0,1,2,3;claim 10 of 4,5,6;claim 12 of 7,8,9,10;");
        due("eight", late.claim(11, 3), 8);
        due("what the last claim has, too, is fine", late.narrow(7, 1 << 12), 1);
        due("the last claim would have nine", late.narrow(7, 1 << 13), FULL);
        due("others than that may be told", late.narrow(11, 1 << 12), 1);

        promise(23, "TO NARROW: the SET (0: it STANDS); NONE: none does. UNKNOWN.");
        ClaimTrees t = filed("claim 0;");
        due("it stands", t.toNarrow(0, 0), 0);
        t.paper(1, 900, 0);
        due("one", t.toNarrow(0, 0), 2);
        due("it changes nothing", t.version(0, 0), 1);
        t.paper(ALL, 900, 4);
        due("none", t.toNarrow(0, 0), NONE);
        ClaimTrees nothing = new ClaimTrees();
        nothing.filing(1, 1000, 0);
        tellClaims(nothing, 0, "claim 0;");
        nothing.paper(1, 900, 0);
        due("nothing to narrow by", nothing.toNarrow(0, 0), NONE);
    }

    private static void promisesOfProducts() {
        promise(24, "FEES are paid until a DAY: what it was (NONE). UNKNOWN, OUTSIDE.");
        ClaimTrees x = filed("claim 0;claim 1;");
        due("none", x.pay(0, 0, 0), NONE);
        due("0", x.pay(0, 0, 20000), 0);
        due("20000", x.pay(0, 0, 5), 20000);
        due("5", x.pay(0, 0, 1700), 5);
        due("another land", x.pay(0, 3, 9), NONE);
        due("land 0 still", x.pay(0, 0, 1700), 1700);
        ClaimTrees each = new ClaimTrees();
        for (int f = 0; f < 8; f++) {
            each.filing(1, 1000, 0);
            for (int land = 0; land < 4; land++) {
                due("none yet", each.pay(f, land, 100 * f + land), NONE);
            }
        }
        for (int f = 0; f < 8; f++) {
            for (int land = 0; land < 4; land++) {
                due("each filing in each land", each.pay(f, land, 5), 100 * f + land);
            }
        }
        for (int wrongOne : new int[] {-1, 1, 8, LOW, HIGH}) {
            due("filing " + wrongOne, x.pay(wrongOne, 0, 1), UNKNOWN);
            due("force of " + wrongOne, x.force(wrongOne, 0, 1), UNKNOWN);
        }

        promise(25, "Whether a FILING is in force in a LAND on a DAY: 1, 0. UNKNOWN, OUTSIDE.");
        due("to its last day", x.force(0, 0, 1700), 1);
        due("behind it", x.force(0, 0, 1701), 0);

        promise(26, "A PRODUCT: its number. UNKNOWN (bits; of LANDS, too), OUTSIDE, FULL.");
        due("no features, no lands", x.product(0, 0, 0), 0);
        due("all of both", x.product(ALL, 15, 20000), 1);
        due("bit 30", x.product(1 << 30, 1, 1), UNKNOWN);
        due("bit 31", x.product(LOW, 1, 1), UNKNOWN);
        due("land 4", x.product(1, 16, 1), UNKNOWN);
        due("land 31", x.product(1, LOW, 1), UNKNOWN);
        due("lands -1", x.product(1, -1, 1), UNKNOWN);

        promise(27, "(what = 0; NONE), how many (1). UNKNOWN, OUTSIDE.");
        due("product", x.product(3, 1, 0), 2);
        due("product", x.product(2, 1, 0), 3);
        due("the first", x.falls(2, 0, 1700, 0), 0);
        due("how many", x.falls(2, 0, 1700, 1), 2);
        due("the first, not claim 0", x.falls(3, 0, 1700, 0), 1);
        due("none", x.falls(0, 0, 1700, 0), NONE);
        due("how many: 0", x.falls(0, 0, 1700, 1), 0);
        for (int what : new int[] {-1, 2, LOW, HIGH}) {
            due("what " + what, x.falls(2, 0, 1700, what), OUTSIDE);
        }
        for (int p : new int[] {-1, 4, 12, LOW, HIGH}) {
            due("falls of product " + p, x.falls(p, 0, 1, 1), UNKNOWN);
            due("around of product " + p, x.around(p, 0, 1), UNKNOWN);
            due("since of product " + p, x.since(p, 0, 0), UNKNOWN);
        }

        promise(28, "AROUND: the SET (0: it falls under none); NONE: none does. UNKNOWN, OUTSIDE.");
        due("none to go around", x.around(0, 0, 1700), 0);
        due("two", x.around(2, 0, 1700), 3);
        due("a day later: none", x.around(2, 0, 1701), 0);
        ClaimTrees far = new ClaimTrees();
        far.filing(ALL, 0, 0);
        tellClaims(far, 0, "claim 12;");
        far.pay(0, 0, 20000);
        far.product(0x1fff, 1, 0);
        due("none does", far.around(0, 0, 540), NONE);

        promise(29, "The first DAY (0 .. 20000) on which a PRODUCT FALLS under a CLAIM in a LAND; NONE. UNKNOWN.");
        due("when it is shown", x.since(2, 0, 0), 1540);
        due("the other claim", x.since(2, 1, 0), 1540);
        due("none: from day 20000 on", x.since(1, 0, 0), NONE);
        due("none: not this claim", x.since(3, 0, 0), NONE);
        x.product(1, 1, 1700);
        due("from its own day", x.since(4, 0, 0), 1700);
        x.product(1, 1, 1701);
        due("a day too late", x.since(5, 0, 0), NONE);
        for (int c : new int[] {-1, 2, 40, LOW, HIGH}) {
            due("since of claim " + c, x.since(2, c, 0), UNKNOWN);
        }
        ClaimTrees end = new ClaimTrees();
        end.filing(1, 19460, 0);
        end.filing(2, 19461, 0);
        end.filing(4, 0, 0);
        tellClaims(end, 0, "claim 0;");
        tellClaims(end, 1, "claim 1;");
        tellClaims(end, 2, "claim 2;");
        for (int f = 0; f < 3; f++) {
            end.pay(f, 0, 20000);
        }
        tellRules(end, 0, "term 9999;");
        end.product(7, 1, 0);
        end.product(7, 1, 20000);
        end.product(4, 1, 9998);
        end.product(4, 1, 9999);
        due("day 20000", end.since(0, 0, 0), 20000);
        due("day 20000, both", end.since(1, 0, 0), 20000);
        due("behind day 20000", end.since(0, 1, 0), NONE);
        due("filed on day 0", end.since(0, 2, 0), 540);
        due("the last day of its term", end.since(2, 2, 0), 9998);
        due("behind its term", end.since(3, 2, 0), NONE);
    }

    public static void main(String[] args) throws IOException {
        if (Files.isReadable(DOCUMENT)) {
            document = plain(Files.readString(DOCUMENT));
        } else {
            System.out.println("BoundaryTests: " + DOCUMENT + " is not there, its words are not looked at");
        }
        manyCalls();
        numbers();
        features();
        daysAndFields();
        rooms();
        roomForClaims();
        clauses();
        signs();
        whichFault();
        fullFaults();
        versions();
        versionDays();
        lands();
        ruleClauses();
        ruleValues();
        papersThatCount();
        filingsThatCount();
        taken();
        easy();
        easyByKnown();
        narrowing();
        fees();
        fallingUnder();
        promisesOfFeatures();
        promisesOfTexts();
        promisesOfClaims();
        promisesOfJudging();
        promisesOfProducts();
        words = "all promises";
        due("promises quoted", PROMISES_QUOTED.size(), PROMISES);
        System.out.println("BoundaryTests: " + quotes + " sentences, " + asked + " answers, " + wrong + " not as due");
        if (wrong != 0) {
            System.exit(1);
        }
    }
}
