/** Each promise of the document by hand: ordinary inputs, edges, wrong inputs. */
public final class PromiseTests {
    private static final int NONE = -1, UNKNOWN = -1001, OUTSIDE = -1002, NOT = -1003, FULL = -1004;
    private static final int LOW = Integer.MIN_VALUE, HIGH = Integer.MAX_VALUE;
    private static int wrong = 0;
    private static int asked = 0;

    private static void due(String call, int got, int want) {
        asked++;
        if (got != want) {
            wrong++;
            System.out.println(call + " answered " + got + ", due is " + want);
        }
    }

    private static void feedText(ClaimTrees x, String text) {
        for (int at = 0; at < text.length(); at += 8) {
            int n = Math.min(8, text.length() - at);
            long bytes = 0;
            for (int i = 0; i < n; i++) {
                bytes = bytes << 8 | text.charAt(at + i);
            }
            x.feed(n, bytes);
        }
    }

    private static int tellClaims(ClaimTrees x, int filing, String text) {
        feedText(x, text);
        return x.claims(filing);
    }

    private static int tellRules(ClaimTrees x, int land, String text) {
        feedText(x, text);
        return x.rules(land);
    }

    /** An object with one filing that tells features 0 to 11, on day 1000, in field 0. */
    private static ClaimTrees withClaims(String text) {
        ClaimTrees x = new ClaimTrees();
        x.filing(4095, 1000, 0);
        feedText(x, text);
        int answer = x.claims(0);
        if (answer < 0) {
            due("claims of " + text, answer, 0);
        }
        return x;
    }

    private static void claimFault(String text, int number, int at) {
        ClaimTrees x = new ClaimTrees();
        x.filing(4095, 1000, 0);
        due("claims of '" + text + "'", tellClaims(x, 0, text), -10 - number);
        due("fault of '" + text + "'", x.fault(), at);
        due("claims after '" + text + "'", x.count(2), 0);
        due("bytes after '" + text + "'", x.count(4), 0);
        due("first after '" + text + "'", x.first(0), NONE);
        due("claims again after '" + text + "'", tellClaims(x, 0, "claim 9;"), 1);
        due("own after '" + text + "'", x.claim(0, 1), 512);
    }

    private static void claimGood(String text, int claims) {
        ClaimTrees x = new ClaimTrees();
        x.filing(4095, 1000, 0);
        due("claims of '" + text + "'", tellClaims(x, 0, text), claims);
        due("fault of '" + text + "'", x.fault(), NONE);
        due("count after '" + text + "'", x.count(2), claims);
    }

    private static void ruleFault(String text, int number, int at) {
        ClaimTrees x = new ClaimTrees();
        tellRules(x, 1, "most 1;known 5;");
        due("rules of '" + text + "'", tellRules(x, 1, text), -10 - number);
        due("fault of '" + text + "'", x.fault(), at);
        due("bytes after '" + text + "'", x.count(4), 0);
        due("most after '" + text + "'", x.rule(1, 0), 1);
        due("known after '" + text + "'", x.rule(1, 5), 32);
    }

    private static void newObject() {
        ClaimTrees x = new ClaimTrees();
        for (int what = 0; what < 6; what++) {
            due("count " + what, x.count(what), 0);
        }
        due("fault", x.fault(), NONE);
        int[] atFirst = {2, 365, 0, 1, 7300, 0};
        for (int land = 0; land < 4; land++) {
            for (int what = 0; what < 6; what++) {
                due("rule " + land + " " + what, x.rule(land, what), atFirst[what]);
            }
        }
        due("first", x.first(0), UNKNOWN);
        due("version", x.version(0, 0), UNKNOWN);
        for (int a = 0; a < 5; a++) {
            due("near at first", x.near(a, (a + 1) % 5, false), 0);
        }
    }

    private static void kindAndWith() {
        ClaimTrees x = new ClaimTrees();
        due("kind of itself", x.kind(4, 4), NOT);
        due("kind(-1, 0)", x.kind(-1, 0), UNKNOWN);
        due("kind(0, 30)", x.kind(0, 30), UNKNOWN);
        due("kind(low, high)", x.kind(LOW, HIGH), UNKNOWN);
        due("kind(5, 29)", x.kind(5, 29), 2);
        due("kind(3, 5)", x.kind(3, 5), 3);
        due("kind(29, 7)", x.kind(29, 7), 2);
        due("with(8) down the chain", x.with(8), 8 | 32 | 1 << 29 | 128);
        due("kind comes round", x.kind(7, 3), NOT);
        due("kind twice", x.kind(3, 6), NOT);
        due("kind again the same", x.kind(3, 5), NOT);
        due("count of kinds", x.count(5), 3);
        due("a kind may be of many", x.kind(2, 5), 4);
        due("with(0)", x.with(0), 0);
        due("with(all)", x.with((1 << 30) - 1), (1 << 30) - 1);
        due("with(bit 30)", x.with(1 << 30), UNKNOWN);
        due("with(bit 31)", x.with(LOW), UNKNOWN);
        due("with(-1)", x.with(-1), UNKNOWN);
        ClaimTrees chain = new ClaimTrees();
        for (int f = 0; f < 29; f++) {
            due("kind in a chain", chain.kind(f, f + 1), 2);
        }
        due("the chain's end", chain.kind(29, 0), NOT);
        due("with a whole chain", chain.with(1), (1 << 30) - 1);
    }

    private static void nearFields() {
        ClaimTrees x = new ClaimTrees();
        due("near one twice", x.near(2, 2, true), OUTSIDE);
        due("near(5, 0)", x.near(5, 0, true), OUTSIDE);
        due("near(0, -1)", x.near(0, -1, true), OUTSIDE);
        due("near(0, 4)", x.near(0, 4, true), 0);
        due("near(4, 0)", x.near(4, 0, false), 1);
        due("near(0, 4)", x.near(0, 4, false), 0);
    }

    private static void papersFilingsElders() {
        ClaimTrees x = new ClaimTrees();
        due("paper bits before day", x.paper(1 << 30, -1, 9), UNKNOWN);
        due("paper day -1", x.paper(1, -1, 0), OUTSIDE);
        due("paper day 20001", x.paper(1, 20001, 0), OUTSIDE);
        due("paper field 5", x.paper(1, 0, 5), OUTSIDE);
        due("paper field -1", x.paper(1, 0, -1), OUTSIDE);
        for (int p = 0; p < 24; p++) {
            due("paper " + p, x.paper(p, p % 2 * 20000, p % 5), p);
        }
        due("paper 24", x.paper(1, 1, 1), FULL);
        due("paper 24, outside", x.paper(1, 1, 5), OUTSIDE);
        due("papers", x.count(0), 24);
        due("filing bits", x.filing(-1, -1, 0), UNKNOWN);
        due("filing day", x.filing(0, 20001, 0), OUTSIDE);
        due("filing field", x.filing(0, 0, 5), OUTSIDE);
        due("elder of none", x.elder(0, 1, 1), UNKNOWN);
        for (int f = 0; f < 8; f++) {
            due("filing " + f, x.filing(f, 100 + f, f % 5), f);
        }
        due("filing 8", x.filing(1, 1, 1), FULL);
        due("filings", x.count(1), 8);
        due("elder bits", x.elder(7, 1 << 30, 1), UNKNOWN);
        due("elder of 8", x.elder(8, 1, 1), UNKNOWN);
        due("elder of -1", x.elder(-1, 1, 1), UNKNOWN);
        due("elder after", x.elder(7, 1, 108), OUTSIDE);
        due("elder before 0", x.elder(7, 1, -1), OUTSIDE);
        due("elder on its day", x.elder(7, 1, 107), 1);
        due("elder 2", x.elder(7, 0, 0), 2);
        due("elder 3", x.elder(7, 1, 5), 3);
        due("elder 4, outside", x.elder(7, 1, 108), OUTSIDE);
        due("elder 4", x.elder(7, 1, 5), FULL);
        due("elder of another", x.elder(6, 1, 5), 1);
        due("count(-1)", x.count(-1), OUTSIDE);
        due("count(6)", x.count(6), OUTSIDE);
    }

    private static void feeding() {
        ClaimTrees x = new ClaimTrees();
        due("feed 0", x.feed(0, 0), OUTSIDE);
        due("feed 9", x.feed(9, 0), OUTSIDE);
        due("feed -1", x.feed(-1, 0), OUTSIDE);
        for (int n = 1; n <= 24; n++) {
            due("feed 8", x.feed(8, -1L), 8 * n);
        }
        due("feed 7", x.feed(7, 0), 199);
        due("feed over", x.feed(2, 0), FULL);
        due("feed 9 when full", x.feed(9, 0), OUTSIDE);
        due("feed to the brim", x.feed(1, 0), 200);
        due("feed over the brim", x.feed(1, 0), FULL);
        due("bytes", x.count(4), 200);
        ClaimTrees y = new ClaimTrees();
        y.filing(1, 1, 0);
        y.feed(1, 0x1111111111111163L);
        y.feed(7, 0x996c61696d20373bL);
        due("only the lowest n bytes come", y.claims(0), 1);
        due("in their order", y.claim(0, 1), 128);
    }

    private static void claimTexts() {
        claimGood("", 0);
        claimGood("    ", 0);
        claimGood("claim 0;", 1);
        claimGood(" claim  0  29 ; ", 1);
        claimGood("claim1 2 3;claim4of0;", 2);
        claimGood("claim 1 2;claim 1 2;claim 3 of 1 , 00;", 3);
        claimFault("claim", 1, 5);
        claimFault("claim ", 1, 6);
        claimFault("claim 1", 1, 7);
        claimFault("claim 1 ;;", 1, 9);
        claimFault(";", 1, 0);
        claimFault("7;", 1, 0);
        claimFault("of 1;", 1, 0);
        claimFault("Claim 1;", 1, 0);
        claimFault("claiM 1;", 1, 0);
        claimFault("claim\t1;", 1, 5);
        claimFault("claimof 1;", 1, 0);
        claimFault("claim of 0;", 1, 6);
        claimFault("claim 1 claim 2;", 1, 8);
        claimFault("claim 1, 2;", 1, 7);
        claimFault("claim 1 2-;", 1, 9);
        claimFault("claim 1;claim 2 of;", 1, 18);
        claimFault("claim 1;claim 2 of 0 0;", 1, 21);
        claimFault("claim 1;claim 2 of 0 100;", 1, 21);
        claimFault("claim 1;claim 2 of 0,;", 1, 21);
        claimFault("claim 1;claim 2 of ,0;", 1, 19);
        claimFault("claim 1;claim 2 of 0", 1, 20);
        claimFault("claim 1;claim 2 of 0of 0;", 1, 20);
        claimFault("claim 1;claim 2 off 0;", 1, 16);
        claimFault("claim 1;claim 2 of0, x;", 1, 21);
        claimFault("claim 1" + (char) 200 + ";", 1, 7);
        claimFault("claim 1" + (char) 0 + ";", 1, 7);
        claimFault("claim 30;", 2, 6);
        claimFault("claim 001;", 2, 6);
        claimFault("claim 1 99999999999999999999999;", 2, 8);
        claimFault("claim 1 4294967296;", 2, 8);
        claimFault("claim 1;claim 2 of 000;", 2, 19);
        claimFault("claim 1;claim 2 of 0,100;", 2, 21);
        claimFault("claim 1 2 01;", 3, 10);
        claimFault("claim 1 1 30;", 3, 8);
        claimFault("claim 1 30 1;", 2, 8);
        claimFault("claim 1 1x;", 3, 8);
        claimFault("claim 1;claim 2 of 0, 00;", 3, 22);
        claimFault("claim 1 of 0;", 4, 11);
        claimFault("claim 1;claim 2 of 1;", 4, 19);
        claimFault("claim 1;claim 2 of 0,2;claim 3;", 4, 21);
        claimFault("claim 1;claim 2 of 28;", 4, 19);
        claimFault("claim 1;claim 2 of 99;", 4, 19);
        StringBuilder nine = new StringBuilder();
        for (int i = 0; i < 9; i++) {
            nine.append("claim ").append(i).append(";");
        }
        claimGood(nine + "claim 9 of 0,1,2,3,4,5,6,7;", 10);
        claimFault(nine + "claim 9 of 0,1,2,3,4,5,6,7,8 ;", 5, nine.length() + 29);
        claimFault(nine + "claim 9 of 0,1,2,3,4,5,6,7,8", 1, nine.length() + 28);
        claimGood(nine + "claim 0 1 2 of 0,1,2,3,4,5,6,7,8;", 10);
    }

    private static void claimRefusals() {
        ClaimTrees x = new ClaimTrees();
        feedText(x, "x");
        due("claims(0) of none", x.claims(0), UNKNOWN);
        due("claims(-1)", x.claims(-1), UNKNOWN);
        due("the text stays", x.count(4), 1);
        due("no fault yet", x.fault(), NONE);
        x.filing(15, 1000, 0);
        x.filing(15, 1000, 0);
        due("a fault", x.claims(0), -11);
        due("its byte", x.fault(), 0);
        due("an empty text", x.claims(0), 0);
        due("no fault", x.fault(), NONE);
        due("told behind an empty text", tellClaims(x, 0, "claim 0;claim 1 of 0;"), 2);
        due("a fault again", tellClaims(x, 1, "claim 1?"), -11);
        due("claims twice", tellClaims(x, 0, "claim 3;"), NOT);
        due("the text stays of NOT", x.count(4), 8);
        due("the fault stays of NOT", x.fault(), 7);
        due("another filing takes it", x.claims(1), 1);
        due("its first claim", x.first(1), 2);
        due("its filing", x.claim(2, 0), 1);
        due("first(2)", x.first(2), UNKNOWN);
        due("first(-1)", x.first(-1), UNKNOWN);
        due("first(0)", x.first(0), 0);
    }

    private static void roomForClaims() {
        ClaimTrees x = new ClaimTrees();
        StringBuilder twenty = new StringBuilder();
        for (int i = 0; i < 20; i++) {
            twenty.append("claim ").append(i % 10).append(";");
        }
        x.filing(1, 1, 0);
        x.filing(1, 1, 0);
        x.filing(1, 1, 0);
        due("twenty claims", tellClaims(x, 0, twenty.toString()), 20);
        due("twenty-one more, and one over", tellClaims(x, 1, twenty + "claim 3;claim 4;"), -16);
        due("at its word", x.fault(), 160);
        due("none of them is there", x.count(2), 20);
        due("twenty more", tellClaims(x, 1, twenty.toString()), 20);
        due("forty", x.count(2), 40);
        due("a wrong word goes first", tellClaims(x, 2, " claims 1;"), -11);
        due("no room", tellClaims(x, 2, " claim ?"), -16);
        due("at its first letter", x.fault(), 1);
        due("an empty text", x.claims(2), 0);
        due("the last claim", x.version(39, 0), 512);
        due("claim 40", x.version(40, 0), UNKNOWN);
    }

    private static void ruleTexts() {
        ClaimTrees x = new ClaimTrees();
        due("rules", tellRules(x, 2, "most 3;year 0;grace 999;secret no;known 29;term 1;known 0;known 29;"), 8);
        int[] told = {3, 0, 999, 0, 1, 1 << 29 | 1};
        for (int what = 0; what < 6; what++) {
            due("rule 2 " + what, x.rule(2, what), told[what]);
        }
        due("another land", x.rule(1, 0), 2);
        due("edges", tellRules(x, 2, " most0001;year 0999;grace 0;secret yes;term9999 ; "), 5);
        int[] edges = {1, 999, 0, 1, 9999, 0};
        for (int what = 0; what < 6; what++) {
            due("rule 2 then " + what, x.rule(2, what), edges[what]);
        }
        due("an empty text", x.rules(2), 0);
        due("as at first", x.rule(2, 4), 7300);
        due("rule(4, 9)", x.rule(4, 9), UNKNOWN);
        due("rule(-1, 0)", x.rule(-1, 0), UNKNOWN);
        due("rule(0, -1)", x.rule(0, -1), OUTSIDE);
        due("rule(0, 6)", x.rule(0, 6), OUTSIDE);
        ruleFault("most 0;", 2, 5);
        ruleFault("most 4;", 2, 5);
        ruleFault("year 1000;", 2, 5);
        ruleFault("grace 1000;", 2, 6);
        ruleFault("term 0;", 2, 5);
        ruleFault("term 00001;", 2, 5);
        ruleFault("term 4294967297;", 2, 5);
        ruleFault("known 30;", 2, 6);
        ruleFault("known 3;known 30;", 2, 14);
        ruleFault("most 2;most 9;", 3, 7);
        ruleFault("secret no;year 1; secret x", 3, 18);
        ruleFault("grace 1;grace 1;", 3, 8);
        ruleFault("term 1;term 1;", 3, 7);
        ruleFault("mos 2;", 1, 0);
        ruleFault("mostt 2;", 1, 0);
        ruleFault("most;", 1, 4);
        ruleFault("most", 1, 4);
        ruleFault("most 2", 1, 6);
        ruleFault("most 2 2;", 1, 7);
        ruleFault("most yes;", 1, 5);
        ruleFault("known 3 4;", 1, 8);
        ruleFault("secret 1;", 1, 7);
        ruleFault("secretyes;", 1, 0);
        ruleFault("secret yes no;", 1, 11);
        ruleFault("claim 1;", 1, 0);
        ruleFault("most 2;;", 1, 7);
        ClaimTrees y = new ClaimTrees();
        y.filing(1, 1, 0);
        feedText(y, "most 1;" + " ".repeat(113));
        due("120 bytes", y.rules(3), 1);
        feedText(y, "most 3;" + " ".repeat(114));
        due("a land that is not, of a long text", y.rules(4), UNKNOWN);
        due("rules(-1)", y.rules(-1), UNKNOWN);
        due("121 bytes", y.rules(3), NOT);
        due("the text stays", y.count(4), 121);
        due("the rules stay", y.rule(3, 0), 1);
        due("the fault stays", y.fault(), NONE);
        due("claims() empties it", y.claims(0), -11);
        due("a good text", tellRules(y, 3, "most 3;"), 1);
        due("then no fault", y.fault(), NONE);
    }

    private static void claimsAndVersions() {
        ClaimTrees x = withClaims("claim 0;claim 1;claim 2 of 1,0;claim 0 1 of 0,1;claim 3 of 2,3;claim 5;");
        due("own", x.claim(2, 1), 4);
        due("added", x.claim(2, 2), 0);
        due("versions", x.claim(2, 3), 2);
        due("in the order told", x.version(2, 0), 6);
        due("then", x.version(2, 1), 5);
        due("like sets once", x.claim(3, 3), 1);
        due("it", x.version(3, 0), 3);
        due("of two", x.claim(4, 3), 3);
        due("4.0", x.version(4, 0), 14);
        due("4.1", x.version(4, 1), 13);
        due("4.2", x.version(4, 2), 11);
        due("4.3", x.version(4, 3), NONE);
        due("4.-1", x.version(4, -1), NONE);
        due("4.low", x.version(4, LOW), NONE);
        due("4.high", x.version(4, HIGH), NONE);
        due("of 0", x.claim(0, 4), 3);
        due("of 1", x.claim(1, 4), 3);
        due("of 2", x.claim(2, 4), 1);
        due("of 5", x.claim(5, 4), 0);
        due("claim(0, 5)", x.claim(0, 5), OUTSIDE);
        due("claim(0, -1)", x.claim(0, -1), OUTSIDE);
        due("claim(6, 5)", x.claim(6, 5), UNKNOWN);
        due("claim(-1, 0)", x.claim(-1, 0), UNKNOWN);
        due("version(6, 0)", x.version(6, 0), UNKNOWN);
        x.filing(4095, 1000, 0);
        due("numbers are of the text", tellClaims(x, 1, "claim 7;claim 8 of 0;"), 2);
        due("7.0", x.version(7, 0), 384);
        due("of 6", x.claim(6, 4), 1);
        due("of 0 still", x.claim(0, 4), 3);
    }

    private static void days() {
        ClaimTrees x = withClaims("claim 0;claim 1 2;");
        x.elder(0, 1, 635);
        due("365 days before", x.day(0, 0, 0), 635);
        x.elder(0, 1, 634);
        due("not 366", x.day(0, 0, 0), 635);
        due("year 366", tellRules(x, 1, "year 366;"), 1);
        due("by a land's rules", x.day(0, 0, 1), 634);
        due("year 0", tellRules(x, 2, "year 0;"), 1);
        due("no elder", x.day(0, 0, 2), 1000);
        due("not all features", x.day(1, 0, 0), 1000);
        x.elder(0, 1 << 20 | 2, 900);
        due("still not", x.day(1, 0, 0), 1000);
        x.kind(20, 2);
        due("with kinds", x.day(1, 0, 0), 900);
        due("no such version", x.day(0, 1, 0), NONE);
        due("no such version", x.day(0, -1, 0), NONE);
        due("no claim", x.day(2, 0, 0), UNKNOWN);
        due("no land", x.day(0, 9, 4), UNKNOWN);
        due("no land", x.day(0, 0, -1), UNKNOWN);
    }

    private static void takenByPapers() {
        ClaimTrees x = withClaims("claim 0 1;");
        x.paper(3, 1000, 0);
        due("on the day", x.does(0, 0, 0), 0);
        x.paper(1, 500, 3);
        due("not all", x.does(0, 0, 0), 0);
        x.paper(7, 999, 3);
        due("any field", x.does(0, 0, 0), 1);
        due("by", x.by(0, 0, 0), 2);
        x.paper(3, 10, 0);
        due("the first", x.by(0, 0, 0), 2);
        tellRules(x, 1, "grace 1;");
        due("grace 1", x.by(0, 0, 1), 3);
        tellRules(x, 1, "grace 989;");
        due("grace 989", x.by(0, 0, 1), 3);
        tellRules(x, 1, "grace 990;");
        due("grace 990", x.does(0, 0, 1), 0);
        due("by none", x.by(0, 0, 1), NONE);
        due("stands", x.stands(0, 1), 1);
        due("falls", x.stands(0, 0), 0);
        due("no such version", x.does(0, 1, 0), NONE);
        due("no such version", x.by(0, 1, 0), NONE);
        due("no such version", x.by(0, -1, 0), NONE);
        due("no claim", x.does(1, 0, 0), UNKNOWN);
        due("no claim", x.by(1, 0, 0), UNKNOWN);
        due("no land", x.does(0, 7, 4), UNKNOWN);
        due("no land", x.by(0, 7, -1), UNKNOWN);
        due("no claim", x.stands(1, 0), UNKNOWN);
        due("no land", x.stands(0, 4), UNKNOWN);
        ClaimTrees y = withClaims("claim 0 1;");
        y.paper(1 << 12, 1, 4);
        y.kind(12, 13);
        due("not yet of these kinds", y.does(0, 0, 0), 0);
        y.kind(13, 0);
        y.kind(0, 1);
        due("kinds told later", y.by(0, 0, 0), 0);
    }

    private static void takenByFilings() {
        ClaimTrees x = new ClaimTrees();
        x.filing(3, 1000, 0);
        x.filing(3, 1001, 4);
        x.filing(3, 460, 4);
        x.filing(3, 459, 4);
        tellClaims(x, 0, "claim 0 1;");
        tellClaims(x, 1, "claim 0 1;");
        due("shown on its day", x.by(0, 0, 0), 102);
        due("lesser day", x.by(1, 0, 0), 100);
        tellRules(x, 1, "secret no;");
        due("secret no", x.by(0, 0, 1), NONE);
        due("secret no", x.stands(1, 1), 1);
        x.elder(0, 3, 999);
        due("by the version's day", x.by(0, 0, 0), 102);
        x.paper(3, 900, 4);
        due("a paper first", x.by(0, 0, 0), 0);
        ClaimTrees y = new ClaimTrees();
        y.filing(3, 1000, 0);
        y.filing(3, 1000, 0);
        y.filing(3, 459, 0);
        y.filing(1, 900, 0);
        y.filing(2, 900, 0);
        tellClaims(y, 0, "claim 0 1;");
        due("none of like days, shown ones, or put together", y.does(0, 0, 0), 0);
        y.elder(0, 3, 999);
        due("the elder's day is lesser", y.does(0, 0, 0), 1);
        due("by one shown on day 999", y.by(0, 0, 0), 102);
        y.kind(1, 0);
        y.kind(4, 1);
        tellClaims(y, 1, "claim 0;");
        due("texts with kinds", y.by(1, 0, 0), 103);
    }

    private static void easyByPapers() {
        ClaimTrees x = withClaims("claim 0 1 2;");
        for (int p = 0; p < 5; p++) {
            x.paper(new int[] {1, 4, 2, 6, 3}[p], 900, 0);
        }
        due("easy", x.does(0, 0, 0), 2);
        due("the fewest, first by numbers: not the least set", x.by(0, 0, 0), 1 | 8);
        tellRules(x, 1, "most 1;");
        due("most 1", x.does(0, 0, 1), 0);
        tellRules(x, 1, "most 1;known 2;");
        due("with known ones", x.by(0, 0, 1), 16);
        tellRules(x, 1, "most 1;known 2;known 1;known 0;");
        due("known ones alone", x.does(0, 0, 1), 2);
        due("by no papers", x.by(0, 0, 1), 0);
        due("does not stand", x.stands(0, 1), 0);
        ClaimTrees y = withClaims("claim 0 1 2;");
        y.paper(1, 900, 1);
        y.paper(2, 900, 2);
        y.paper(4, 900, 0);
        tellRules(y, 0, "most 3;");
        y.near(0, 1, true);
        y.near(0, 2, true);
        due("not near to one another", y.does(0, 0, 0), 0);
        y.near(2, 1, true);
        due("all near", y.by(0, 0, 0), 7);
        y.near(2, 0, false);
        due("not near to the filing's", y.does(0, 0, 0), 0);
        y.near(2, 0, true);
        tellRules(y, 0, "most 3;grace 100;");
        due("those in grace do not count", y.does(0, 0, 0), 0);
        tellRules(y, 0, "most 3;grace 99;");
        due("those before it count", y.does(0, 0, 0), 2);
        tellRules(y, 0, "most 2;");
        due("three are too many", y.does(0, 0, 0), 0);
        tellRules(y, 0, "most 2;known 20;");
        y.kind(20, 1);
        due("known ones with kinds", y.by(0, 0, 0), 5);
        ClaimTrees z = withClaims("claim 0 1;");
        z.filing(1, 900, 0);
        z.paper(2, 900, 0);
        due("hidden filings are not put together", z.does(0, 0, 0), 0);
    }

    private static void widerClaims() {
        ClaimTrees x = withClaims("claim 0;claim 1;claim 2 of 0,1;claim 2 0;claim 2 12;");
        due("one version of two", x.wider(0, 2), 0);
        due("it has all", x.wider(0, 3), 1);
        due("a version for each", x.wider(2, 3), 1);
        due("not back", x.wider(3, 2), 0);
        due("no kinds yet", x.wider(1, 4), 0);
        x.kind(12, 1);
        due("with kinds", x.wider(1, 4), 1);
        due("with kinds of b alone", x.wider(4, 1), 0);
        due("itself", x.wider(2, 2), 1);
        due("wider(5, 0)", x.wider(5, 0), UNKNOWN);
        due("wider(0, 5)", x.wider(0, 5), UNKNOWN);
        due("wider(-1, 0)", x.wider(-1, 0), UNKNOWN);
    }

    private static void narrowing() {
        ClaimTrees x = withClaims("claim 0;claim 1 of 0;claim 2;");
        due("narrow", x.narrow(0, 8), 1);
        due("in all", x.narrow(0, 8 | 16), 2);
        due("none more", x.narrow(0, 0), 2);
        due("own ones count, too", x.narrow(0, 1), 3);
        due("added", x.claim(0, 2), 25);
        due("own", x.claim(0, 1), 1);
        due("its version", x.version(0, 0), 25);
        due("those of it", x.version(1, 0), 27);
        due("but not added to them", x.claim(1, 2), 0);
        due("others", x.version(2, 0), 4);
        due("bits", x.narrow(0, 1 << 30), UNKNOWN);
        due("no claim", x.narrow(3, 1 << 12), UNKNOWN);
        due("not in the text", x.narrow(0, 1 << 12 | 64), NOT);
        due("nothing was added", x.claim(0, 2), 25);
        x.kind(11, 12);
        due("the text with kinds", x.narrow(0, 1 << 12), 4);
        ClaimTrees y = withClaims("claim 0;claim 1;claim 2;claim 3;claim 4;claim 5;claim 6;claim 7;claim 7;"
            + "claim 8 of 0,1,2,3,4,5,6,7,8;claim 9 of 9;");
        due("eight versions", y.claim(9, 3), 8);
        due("nine versions then", y.narrow(8, 1 << 10), FULL);
        due("added none", y.claim(8, 2), 0);
        due("version as before", y.version(8, 0), 128);
        due("versions as before", y.claim(9, 3), 8);
        due("the last as before", y.version(9, 7), 384);
        due("those of it as before", y.version(10, 7), 896);
        due("NOT ahead of FULL", y.narrow(8, 1 << 12), NOT);
        due("both by turns: the first is refused", y.narrow(7, 1 << 10), FULL);
        due("what merges is fine", y.narrow(9, 255), 8);
        due("one version", y.claim(9, 3), 1);
        due("it", y.version(9, 0), 511);
        due("then there is room", y.narrow(8, 1 << 10), 1);
        due("two versions", y.claim(9, 3), 2);
        due("the second", y.version(9, 1), 511 | 1 << 10);
    }

    private static void leastNarrowing() {
        ClaimTrees x = withClaims("claim 0;claim 1;claim 5 of 0,1;");
        due("it stands", x.toNarrow(2, 0), 0);
        due("no claim", x.toNarrow(3, 0), UNKNOWN);
        due("no land", x.toNarrow(0, 4), UNKNOWN);
        x.paper(1 | 2 | 32, 900, 0);
        due("the least", x.toNarrow(2, 0), 4);
        x.paper(4 | 8 | 16 | 64 | 128 | 256 | 512 | 1024, 900, 1);
        due("another field", x.toNarrow(2, 0), 4);
        x.near(0, 1, true);
        due("the first eight are looked at", x.toNarrow(2, 0), NONE);
        ClaimTrees y = withClaims("claim 0;claim 1;claim 5 of 0,1;");
        y.paper(35, 900, 0);
        y.paper(4 | 8 | 16 | 64 | 128, 900, 0);
        due("the eighth: features in some versions alone are of them", y.toNarrow(2, 0), 256);
        y.paper(256, 900, 0);
        due("two: the least set, that may be the higher number's", y.toNarrow(2, 0), 4 | 256);
        ClaimTrees k = new ClaimTrees();
        k.kind(2, 1);
        k.filing(1 | 4, 1000, 0);
        tellClaims(k, 0, "claim 0;");
        k.paper(1, 900, 0);
        due("of the text itself, not its kinds", k.toNarrow(0, 0), 4);
        ClaimTrees e = withClaims("claim 0;");
        e.elder(0, 1 | 8, 800);
        e.paper(1, 700, 0);
        e.paper(15, 900, 4);
        due("the elder's day counts for what it tells", e.toNarrow(0, 0), 8);
    }

    private static void feesAndForce() {
        ClaimTrees x = withClaims("claim 0;");
        due("unpaid", x.force(0, 0, 1540), 0);
        due("pay", x.pay(0, 0, 20000), NONE);
        due("shown", x.force(0, 0, 1540), 1);
        due("not shown", x.force(0, 0, 1539), 0);
        due("another land", x.force(0, 1, 1540), 0);
        due("less than term", x.force(0, 0, 8299), 1);
        due("not term", x.force(0, 0, 8300), 0);
        due("pay less", x.pay(0, 0, 2000), 20000);
        due("until, with it", x.force(0, 0, 2000), 1);
        due("behind it", x.force(0, 0, 2001), 0);
        due("pay 0", x.pay(0, 3, 0), NONE);
        due("it was 0", x.pay(0, 3, 1), 0);
        due("pay day -1", x.pay(0, 0, -1), OUTSIDE);
        due("pay day 20001", x.pay(0, 0, 20001), OUTSIDE);
        due("it stays", x.pay(0, 0, 5), 2000);
        due("pay no filing", x.pay(1, 0, -1), UNKNOWN);
        due("pay no land", x.pay(0, 4, -1), UNKNOWN);
        due("force no filing", x.force(-1, 0, -1), UNKNOWN);
        due("force no land", x.force(0, -1, -1), UNKNOWN);
        due("force day -1", x.force(0, 0, -1), OUTSIDE);
        due("force day 20001", x.force(0, 0, 20001), OUTSIDE);
        tellRules(x, 1, "term 540;");
        x.pay(0, 1, 20000);
        due("a term that ends before it is shown", x.force(0, 1, 1540), 0);
        tellRules(x, 1, "term 541;");
        due("one day", x.force(0, 1, 1540), 1);
    }

    private static void products() {
        ClaimTrees x = withClaims("claim 0;claim 1 2;claim 3 of 0,1;");
        due("bits", x.product(1 << 30, 1, -1), UNKNOWN);
        due("lands", x.product(1, 16, -1), UNKNOWN);
        due("lands -1", x.product(1, -1, 0), UNKNOWN);
        due("day", x.product(1, 1, -1), OUTSIDE);
        due("day 20001", x.product(1, 1, 20001), OUTSIDE);
        due("product", x.product(1 | 2 | 4, 5, 2000), 0);
        due("product", x.product(1 << 20 | 2 | 8, 15, 0), 1);
        due("product", x.product(0, 0, 0), 2);
        for (int p = 3; p < 12; p++) {
            due("product", x.product(1, 1, 20000), p);
        }
        due("full", x.product(1, 1, 1), FULL);
        due("full, outside", x.product(1, 1, 20001), OUTSIDE);
        due("products", x.count(3), 12);
        for (int land = 0; land < 4; land++) {
            x.pay(0, land, 9000);
        }
        due("not there yet", x.falls(0, 0, 1999, 1), 0);
        due("there", x.falls(0, 0, 2000, 1), 2);
        due("the first", x.falls(0, 2, 2000, 0), 0);
        due("not in this land", x.falls(0, 1, 2000, 0), NONE);
        due("not this land", x.falls(0, 1, 2000, 1), 0);
        due("none", x.falls(1, 1, 2000, 0), NONE);
        x.kind(20, 2);
        due("with kinds", x.falls(1, 1, 2000, 0), 1);
        due("any version", x.falls(1, 1, 2000, 1), 2);
        due("behind the fees", x.falls(1, 1, 9001, 1), 0);
        x.paper(2 | 4, 999, 3);
        due("what does not stand", x.falls(1, 1, 2000, 1), 1);
        due("the first that stands", x.falls(1, 1, 2000, 0), 2);
        due("what 2", x.falls(0, 0, 2000, 2), OUTSIDE);
        due("what -1", x.falls(0, 0, 2000, -1), OUTSIDE);
        due("day -1", x.falls(0, 0, -1, 0), OUTSIDE);
        due("day 20001", x.falls(0, 0, 20001, 0), OUTSIDE);
        due("no product", x.falls(12, 0, -1, 9), UNKNOWN);
        due("no product", x.falls(-1, 0, -1, 9), UNKNOWN);
        due("no land", x.falls(0, 4, -1, 9), UNKNOWN);
        due("a product of nothing", x.falls(2, 0, 2000, 1), 0);
        due("no product", x.around(12, 0, -1), UNKNOWN);
        due("no land", x.around(0, 4, -1), UNKNOWN);
        due("day", x.around(0, 0, 20001), OUTSIDE);
        due("day", x.around(0, 0, -1), OUTSIDE);
        due("no product", x.since(12, 0, 0), UNKNOWN);
        due("no claim", x.since(0, 3, 0), UNKNOWN);
        due("no land", x.since(0, 0, -1), UNKNOWN);
    }

    private static void goingAround() {
        ClaimTrees x = withClaims("claim 0 1;claim 2 3;claim 1 4;");
        x.pay(0, 0, 9000);
        x.product(31, 1, 100);
        due("the fewest: one for two", x.around(0, 0, 2000), 2 | 4);
        due("on another day", x.around(0, 0, 1000), 0);
        due("in another land", x.around(0, 1, 2000), 0);
        x.kind(0, 1);
        due("what kinds bring must go, too", x.around(0, 0, 2000), 1 | 2 | 4);
        x.product(1 | 4 | 8, 1, 100);
        due("one by its kind", x.around(1, 0, 2000), 1 | 4);
        ClaimTrees y = new ClaimTrees();
        y.filing((1 << 30) - 1, 0, 0);
        tellClaims(y, 0, "claim 12;");
        y.pay(0, 0, 9000);
        y.product((1 << 13) - 1, 1, 0);
        y.product((1 << 13) - 2, 1, 0);
        due("the thirteenth is not looked at", y.around(0, 0, 600), NONE);
        due("the twelfth is", y.around(1, 0, 600), 4096);
        ClaimTrees z = withClaims("claim 0;claim 1;claim 2 of 0,1;");
        z.paper(1, 1, 0);
        z.paper(2, 1, 0);
        z.pay(0, 0, 9000);
        z.product(7, 1, 0);
        due("of one claim's versions each must go: the least", z.around(0, 0, 2000), 4);
        z.paper(4, 1, 0);
        due("what does not stand is no matter", z.around(0, 0, 2000), 0);
    }

    private static void firstDays() {
        ClaimTrees x = withClaims("claim 0;claim 1;");
        x.product(1, 1, 1700);
        x.product(1, 1, 0);
        x.product(1, 2, 0);
        due("unpaid", x.since(0, 0, 0), NONE);
        x.pay(0, 0, 1699);
        due("paid too short", x.since(0, 0, 0), NONE);
        due("shown", x.since(1, 0, 0), 1540);
        due("not its land", x.since(2, 0, 0), NONE);
        x.pay(0, 0, 1700);
        due("on its own day", x.since(0, 0, 0), 1700);
        due("not this claim", x.since(0, 1, 0), NONE);
        tellRules(x, 0, "term 700;");
        due("the term's end", x.since(0, 0, 0), NONE);
        tellRules(x, 0, "term 701;");
        due("the term's last day", x.since(0, 0, 0), 1700);
        x.paper(1, 999, 4);
        due("it stands no more", x.since(0, 0, 0), NONE);
        ClaimTrees y = new ClaimTrees();
        y.filing(1, 19460, 0);
        y.filing(1, 19461, 0);
        tellClaims(y, 0, "claim 0;");
        tellClaims(y, 1, "claim 0;");
        tellRules(y, 0, "secret no;");
        y.pay(0, 0, 20000);
        y.pay(1, 0, 20000);
        y.product(1, 1, 0);
        due("day 20000", y.since(0, 0, 0), 20000);
        due("behind the last day", y.since(0, 1, 0), NONE);
    }

    /** All rows full to the last place, with a parent list as long as a text can hold. */
    private static void brimful() {
        ClaimTrees x = new ClaimTrees();
        for (int f = 0; f < 8; f++) {
            due("filing", x.filing((1 << 30) - 1, 1000, f % 5), f);
            for (int e = 0; e < 3; e++) {
                due("elder", x.elder(f, 1 << 29, 1000 - f), e + 1);
            }
        }
        for (int p = 0; p < 24; p++) {
            due("paper", x.paper(1 << p, 100, 0), p);
        }
        for (int p = 0; p < 12; p++) {
            due("product", x.product((1 << 30) - 1, 15, 0), p);
        }
        String five = "claim 28;claim 28;claim 28;claim 28;claim 28of 0,1,2,3;";
        for (int f = 0; f < 8; f++) {
            due("claims", tellClaims(x, f, five), 5);
            due("pay", x.pay(f, 3, 20000), NONE);
        }
        due("claims", x.count(2), 40);
        due("kind", x.kind(29, 28), 2);
        for (int c = 0; c < 40; c++) {
            due("versions", x.claim(c, 3), 1);
            due("those of it", x.claim(c, 4), c % 5 == 4 ? 0 : 1);
            due("by kinds of an elder told before", x.day(c, 0, 0), 1000 - c / 5);
            due("taken by one with a lesser day, or none", x.by(c, 0, 0), NONE);
        }
        due("falls under all", x.falls(11, 3, 2000, 1), 40);
        due("around all", x.around(11, 3, 2000), NONE);
        due("narrow the last", x.narrow(39, 15), 4);
        due("its version", x.version(39, 0), 1 << 28 | 15);
        tellRules(x, 3, "most 3;known 28;");
        due("four of four papers", x.does(39, 0, 3), 0);
        tellRules(x, 3, "most 3;known 28;known 0;");
        due("near ones alone", x.does(39, 0, 3), 0);
        x.near(2, 0, true);
        due("three of them", x.by(39, 0, 3), 14);
    }

    private static void afterAFault() {
        ClaimTrees x = new ClaimTrees();
        x.filing(255, 1000, 3);
        due("a fault behind three", tellClaims(x, 0, "claim 0;claim 1 of 0;claim 2 of 1;?"), -11);
        due("three others", tellClaims(x, 0, "claim 3;claim 4;claim 5 of 1;"), 3);
        due("none is of the first", x.claim(0, 4), 0);
        due("one is of the second", x.claim(1, 4), 1);
        due("its version", x.version(2, 0), 48);
        due("a claim alone, told twice", tellClaims(x, 0, "claim 3;"), NOT);
        due("rules without a fault", x.count(4), 8);
        x.filing(255, 1000, 3);
        due("that text, of another filing", x.claims(1), 1);
        due("claims told twice", x.claims(1), NOT);
        due("a word from its first letter on", tellRules(x, 0, "zost 1;"), -11);
        due("at", x.fault(), 0);
        due("a word to its last letter", tellRules(x, 0, "mostz 1;"), -11);
        due("at", x.fault(), 0);
        due("good rules", tellRules(x, 0, "most 1;"), 1);
        due("no fault then", x.fault(), NONE);
        x.paper(8, 900, 3);
        x.paper(16, 900, 3);
        x.narrow(0, 16);
        due("most 1", x.stands(0, 0), 1);
        due("the filing's own field", x.by(0, 0, 1), 3);
        x.near(1, 3, true);
        x.near(3, 1, false);
        x.near(3, 4, true);
        x.near(4, 3, false);
        x.paper(128, 900, 1);
        x.paper(128, 900, 4);
        x.narrow(0, 128);
        tellRules(x, 1, "most 3;");
        due("near no more, either way", x.does(0, 0, 1), 0);
        x.near(3, 4, true);
        due("near again", x.by(0, 0, 1), 1 | 2 | 8);
        due("not of the empty set alone", x.stands(3, 0), 0);
    }

    public static void main(String[] args) {
        newObject();
        kindAndWith();
        nearFields();
        papersFilingsElders();
        feeding();
        claimTexts();
        claimRefusals();
        roomForClaims();
        ruleTexts();
        claimsAndVersions();
        days();
        takenByPapers();
        takenByFilings();
        easyByPapers();
        widerClaims();
        narrowing();
        leastNarrowing();
        feesAndForce();
        products();
        goingAround();
        firstDays();
        brimful();
        afterAFault();
        System.out.println("PromiseTests: " + asked + " answers, " + wrong + " not as due");
        if (wrong != 0) {
            System.exit(1);
        }
    }
}
