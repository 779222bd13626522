import java.nio.charset.StandardCharsets;
import java.util.Arrays;
import java.util.List;

/** Promises 2 to 7: each sentence on texts and laws that names a boundary case has a test of its own. */
public final class LastLentTextEdges {
    private static final int NONE = -1, UNKNOWN = -1001, OUTSIDE = -1002, FULL = -1004;
    private static final int LOW = Integer.MIN_VALUE, HIGH = Integer.MAX_VALUE;
    private static final List<String> KINDS =
        List.of("wage", "rope", "pilot", "saved", "need", "pledge", "harm", "dues");
    private static final List<String> FUNDS = List.of("ship", "freight", "cargo");
    private static final List<String> WITHINS = List.of("parts", "later", "sooner");
    private static final List<String> CLAUSES =
        List.of("rides", "ahead", "first", "behind", "later", "within", "dies", "leave", "sale", "costs");
    /** What may stand behind each clause's first word. */
    private static final List<String> BODIES =
        List.of(" wage ship;", " wage rope;", " wage;", " wage;", ";", " parts;", " wage 1;", " wage;", ";", " 1;");
    /** Tells something of all that a text can tell. */
    private static final String RICH = "rides wage cargo;ahead dues rope;ahead rope dues;first dues;behind need;later;"
        + "within later;dies rope 5;leave pilot;sale;costs 7;ahead pledge harm;ahead harm wage;";
    private static String sentence = "";
    private static int wrong = 0;
    private static int asked = 0;

    private static void due(String call, int got, int want) {
        asked++;
        if (got != want) {
            wrong++;
            System.out.println(sentence + ": " + call + " answered " + got + ", due is " + want);
        }
    }

    private static void feedText(LastLent x, String text) {
        byte[] bytes = text.getBytes(StandardCharsets.ISO_8859_1);
        for (int at = 0; at < bytes.length; at += 8) {
            int n = Math.min(8, bytes.length - at);
            long packed = 0;
            for (int i = 0; i < n; i++) {
                packed = packed << 8 | bytes[at + i] & 255;
            }
            due("feed of '" + text + "'", x.feed(n, packed), at + n);
        }
    }

    /** A text without a fault, told as the law of land 1, which had another one. */
    private static LastLent sound(String text, int clauses) {
        LastLent x = new LastLent();
        feedText(x, "costs 7;first dues;");
        x.law(1);
        feedText(x, text);
        due("law(1) of '" + text + "'", x.law(1), clauses);
        due("fault() of '" + text + "'", x.fault(), NONE);
        due("count(2) behind '" + text + "'", x.count(2), 0);
        return x;
    }

    /** A text with a fault: the law of land 1 is as it was, and the text is empty. */
    private static void faulty(String text, int number, int place) {
        LastLent x = new LastLent();
        feedText(x, "costs 7;first dues;");
        x.law(1);
        feedText(x, text);
        due("law(1) of '" + text + "'", x.law(1), -10 - number);
        due("fault() of '" + text + "'", x.fault(), place);
        due("count(2) behind '" + text + "'", x.count(2), 0);
        due("costs behind '" + text + "'", x.rule(1, 3), 7);
        due("sale behind '" + text + "'", x.rule(1, 2), 0);
        due("dues behind '" + text + "'", x.kind(1, 7, 2), 1);
    }

    public static void main(String[] args) {
        feedTakesTheLowestBytes();
        feedIsOutside();
        feedIsFull();
        lawCountsClauses();
        lawLeavesTheTextEmpty();
        lawWithFaultLeavesTheLaw();
        lawUnknownLeavesTheText();
        ridesTakesOneToThreeFunds();
        ridesOfAKindOnce();
        fundsOnce();
        twelveAheads();
        aheadOfItself();
        firstOrBehindOnce();
        diesAndLeaveOnce();
        clausesOnce();
        numbersOfDies();
        numbersOfCosts();
        wordsAreLetters();
        everyByte();
        blanksBetween();
        emptyTexts();
        whereWhatMayStand();
        theEnd();
        theLeastFault();
        theFirstFault();
        fullTexts();
        whatIsNotTold();
        faultOfTheLatestLaw();
        ranksAndRings();
        goesBySteps();
        rulesAtTheirEdges();
        System.out.println(asked + " answers, " + wrong + " not as due");
        if (wrong != 0) {
            System.exit(1);
        }
    }

    // ---- promise 2

    private static void feedTakesTheLowestBytes() {
        sentence = "2: the lowest n bytes (1 .. 8) of a long, the highest of these first, come behind THE TEXT";
        String text = "costs 120;sale;";
        for (int n = 1; n <= 8; n++) {
            LastLent x = new LastLent();
            for (int at = 0; at < text.length(); at += n) {
                int size = Math.min(n, text.length() - at);
                long packed = -1L;
                for (int i = 0; i < size; i++) {
                    packed = packed << 8 | text.charAt(at + i);
                }
                due("feed(" + size + ", ..)", x.feed(size, packed), at + size);
                due("count(2)", x.count(2), at + size);
            }
            due("law(0) of pieces of " + n, x.law(0), 2);
            due("rule(0, 3) of pieces of " + n, x.rule(0, 3), 120);
            due("rule(0, 2) of pieces of " + n, x.rule(0, 2), 1);
        }
        for (long bytes : new long[] {0L, -1L, Long.MIN_VALUE, Long.MAX_VALUE}) {
            LastLent x = new LastLent();
            due("feed(8, " + bytes + ")", x.feed(8, bytes), 8);
            due("law(0)", x.law(0), -11);
            due("fault()", x.fault(), 0);
        }
    }

    private static void feedIsOutside() {
        sentence = "2: OUTSIDE";
        LastLent x = new LastLent();
        for (int n : new int[] {0, 9, -1, 64, LOW, HIGH}) {
            due("feed(" + n + ", ..)", x.feed(n, 0x73L), OUTSIDE);
            due("count(2)", x.count(2), 0);
        }
        due("feed(1, ..)", x.feed(1, 0x73L), 1);
        due("feed(8, ..)", x.feed(8, 0x73L), 9);
    }

    private static LastLent withBlanks(int n) {
        LastLent x = new LastLent();
        feedText(x, " ".repeat(n));
        return x;
    }

    private static void feedIsFull() {
        sentence = "2: FULL (240)";
        long sale = 0x2020202073616C65L;
        for (int size = 232; size <= 240; size++) {
            for (int n = 1; n <= 8; n++) {
                LastLent x = withBlanks(size);
                boolean fits = size + n <= 240;
                due("feed(" + n + ", ..) behind " + size, x.feed(n, sale), fits ? size + n : FULL);
                due("count(2)", x.count(2), fits ? size + n : size);
                if (!fits) {
                    due("law(0) of " + size + " blanks", x.law(0), 0);
                }
            }
        }
        sentence = "2: of OUTSIDE and FULL the first in the order of REFUSALS";
        LastLent x = withBlanks(240);
        for (int n : new int[] {0, 9, -1, LOW, HIGH}) {
            due("feed(" + n + ", ..) behind 240", x.feed(n, 0L), OUTSIDE);
        }
        due("count(2)", x.count(2), 240);
        due("law(0)", x.law(0), 0);
        due("feed(8, ..) when it is empty again", x.feed(8, 0L), 8);
    }

    // ---- promise 3

    private static void lawCountsClauses() {
        sentence = "3: how many clauses";
        sound("", 0);
        sound("sale;", 1);
        sound("sale;later;", 2);
        StringBuilder many = new StringBuilder("sale;later;costs0;");
        for (String kind : KINDS) {
            many.append("first ").append(kind).append(";leave ").append(kind).append(';');
        }
        many.append("dies wage1;dies rope1;dies dues1;").append("     ");
        due("its bytes", many.length(), 240);
        sound(many.toString(), 22);
        LastLent x = new LastLent();
        for (int land = 0; land < 4; land++) {
            feedText(x, "costs " + land + "1;");
            due("law(" + land + ")", x.law(land), 1);
        }
        for (int land = 0; land < 4; land++) {
            due("each land has its own", x.rule(land, 3), 10 * land + 1);
        }
    }

    private static void lawLeavesTheTextEmpty() {
        sentence = "3: THE TEXT (it is empty then, with a FAULT, too)";
        LastLent x = new LastLent();
        for (String text : new String[] {"sale;", "x", "costs 1000;", "sale;sale;", "  "}) {
            feedText(x, text);
            x.law(2);
            due("count(2) behind '" + text + "'", x.count(2), 0);
            due("law(3) of nothing behind '" + text + "'", x.law(3), 0);
        }
        feedText(x, "sal");
        x.law(0);
        feedText(x, "e;");
        due("no piece of a faulty text stays", x.law(0), -11);
        due("fault()", x.fault(), 0);
    }

    private static void lawWithFaultLeavesTheLaw() {
        sentence = "3: -10 less the number of its FAULT (the LAW is as it was)";
        faulty("costs 9;sale;behind dues;x", 1, 25);
        faulty("costs 9;sale;dies wage 0;", 2, 23);
        faulty("costs 9;sale;sale;", 3, 13);
        LastLent x = new LastLent();
        feedText(x, "x");
        due("law(0) of a land without a text", x.law(0), -11);
        for (int what = 0; what < 6; what++) {
            due("rule(0, " + what + ")", x.rule(0, what), 0);
        }
        due("kind(0, 0, 1)", x.kind(0, 0, 1), 1);
    }

    private static void lawUnknownLeavesTheText() {
        sentence = "3: UNKNOWN (THE TEXT stays)";
        for (int land : new int[] {-1, 4, LOW, HIGH}) {
            LastLent x = new LastLent();
            due("law(" + land + ") of an empty text", x.law(land), UNKNOWN);
            feedText(x, "sale;x");
            due("law(" + land + ")", x.law(land), UNKNOWN);
            due("count(2)", x.count(2), 6);
            due("fault()", x.fault(), NONE);
            due("law(3)", x.law(3), -11);
            due("fault()", x.fault(), 5);
        }
        for (int land : new int[] {0, 3}) {
            LastLent x = new LastLent();
            feedText(x, "sale;");
            due("law(" + land + ")", x.law(land), 1);
            due("rule(" + land + ", 2)", x.rule(land, 2), 1);
        }
    }

    // ---- what may be told once

    private static void ridesTakesOneToThreeFunds() {
        sentence = "3: 'rides' kind fund {fund} ';'";
        faulty("rides wage;", 1, 10);
        int[][] ways = {{0}, {1}, {2}, {0, 1}, {1, 0}, {0, 2}, {2, 0}, {1, 2}, {2, 1},
            {0, 1, 2}, {0, 2, 1}, {1, 0, 2}, {1, 2, 0}, {2, 0, 1}, {2, 1, 0}};
        for (int[] way : ways) {
            StringBuilder text = new StringBuilder("rides saved");
            int set = 0;
            for (int f : way) {
                text.append(' ').append(FUNDS.get(f));
                set |= 1 << f;
            }
            due("rides of '" + text + ";'", sound(text + ";", 1).kind(1, 3, 1), set);
        }
    }

    private static void ridesOfAKindOnce() {
        sentence = "3: rides of a kind once: told again, at the kind";
        StringBuilder all = new StringBuilder();
        for (String kind : KINDS) {
            all.append("rides ").append(kind).append(" cargo;");
        }
        LastLent x = sound(all.toString(), 8);
        for (int k = 0; k < 8; k++) {
            due("kind(1, " + k + ", 1)", x.kind(1, k, 1), 4);
            faulty(all + "rides " + KINDS.get(k) + " ship;", 3, all.length() + 6);
        }
    }

    private static void fundsOnce() {
        sentence = "3: fund: each once: told again, at the fund";
        for (String a : FUNDS) {
            faulty("rides wage " + a + " " + a + ";", 3, 12 + a.length());
            for (String b : FUNDS) {
                if (!a.equals(b)) {
                    String two = "rides wage " + a + " " + b + " ";
                    faulty(two + a + ";", 3, two.length());
                    faulty(two + b + ";", 3, two.length());
                }
            }
            faulty("rides wage ship freight cargo " + a + ";", 3, 30);
            sound("rides wage " + a + ";rides rope " + a + ";", 2);
        }
    }

    private static void twelveAheads() {
        sentence = "3: 'ahead' (12 at most); a thirteenth 'ahead' (at its first letter)";
        String twelve = "ahead wage rope;".repeat(12);
        due("rule(1, 4)", sound(twelve, 12).rule(1, 4), 12);
        due("rule(1, 4)", sound("ahead wage rope;".repeat(11), 11).rule(1, 4), 11);
        sound(twelve + "sale;", 13);
        faulty(twelve + "ahead wage rope;", 3, 192);
        faulty(twelve + "  ahead wage rope;", 3, 194);
        faulty(twelve + "sale;ahead wage rope;", 3, 197);
        faulty(twelve + "ahead", 3, 192);
        faulty(twelve + "ahead x", 3, 192);
        faulty(twelve + "ahead wage wage;", 3, 192);
        faulty(twelve + "aheada", 1, 192);
        LastLent x = new LastLent();
        for (int land = 0; land < 4; land++) {
            feedText(x, twelve);
            due("each law has its own twelve", x.law(land), 12);
        }
    }

    private static void aheadOfItself() {
        sentence = "3: a kind ahead of itself (at the latter)";
        for (int k = 0; k < 8; k++) {
            String kind = KINDS.get(k);
            faulty("ahead " + kind + " " + kind + ";", 3, 7 + kind.length());
            faulty("sale;ahead " + kind + "   " + kind + ";", 3, 14 + kind.length());
            sound("ahead " + kind + " " + KINDS.get((k + 1) % 8) + ";", 1);
        }
        sound("ahead wage rope;ahead rope wage;", 2);
    }

    private static void firstOrBehindOnce() {
        sentence = "3: first, behind (a kind in one of both, once): told again, at the kind";
        for (String kind : KINDS) {
            for (String a : new String[] {"first ", "behind "}) {
                sound(a + kind + ";", 1);
                for (String b : new String[] {"first ", "behind "}) {
                    String text = a + kind + ";" + b;
                    faulty(text + kind + ";", 3, text.length());
                    String other = kind.equals("wage") ? "rope" : "wage";
                    sound(text + other + ";", 2);
                }
            }
        }
    }

    private static void diesAndLeaveOnce() {
        sentence = "3: dies, leave: of a kind once: told again, at the kind";
        for (String kind : KINDS) {
            String other = kind.equals("wage") ? "rope" : "wage";
            faulty("dies " + kind + " 1;dies " + kind + " 2;", 3, 13 + kind.length());
            faulty("leave " + kind + ";leave " + kind + ";", 3, 13 + kind.length());
            sound("dies " + kind + " 1;dies " + other + " 1;leave " + kind + ";leave " + other + ";", 4);
        }
        sentence = "3: one kind in several clauses";
        sound("rides wage ship;first wage;dies wage 1;leave wage;ahead wage rope;ahead rope wage;", 6);
    }

    private static void clausesOnce() {
        sentence = "3: 'later', 'within', 'sale', 'costs' once each: at the clause's first letter";
        String[] once = {"later;", "within later;", "sale;", "costs 5;"};
        for (String a : once) {
            faulty(a + a, 3, a.length());
            faulty(a + "   " + a, 3, a.length() + 3);
            for (String b : once) {
                if (!a.equals(b)) {
                    sound(a + b, 2);
                    faulty(a + b + a, 3, a.length() + b.length());
                    faulty(a + b + b, 3, a.length() + b.length());
                }
            }
        }
        faulty("within later;within sooner;", 3, 13);
        faulty("costs 0;costs 5;", 3, 8);
        faulty("costs 5;costs", 3, 8);
        sound("later;within later;sale;costs 5;", 4);
        sound("within later;later;", 2);
    }

    // ---- numbers

    private static void numbersOfDies() {
        sentence = "3: 'dies' kind N (N 1 .. 999); NUMBERS have one to three figures";
        String[] taken = {"1", "01", "001", "9", "10", "99", "010", "100", "998", "999"};
        for (String n : taken) {
            due("dies " + n, sound("dies harm " + n + ";", 1).kind(1, 6, 3), Integer.parseInt(n));
        }
        sentence = "3: fault 2: a NUMBER of four figures or more, or out of its bounds (at its first)";
        String[] refused = {"0", "00", "000", "0000", "0001", "0999", "1000", "9999", "00000000000000000001",
            "2147483648", "4294967296", "4294967297", "18446744073709551617"};
        for (String n : refused) {
            faulty("dies harm " + n + ";", 2, 10);
            faulty("dies harm" + n, 2, 9);
        }
    }

    private static void numbersOfCosts() {
        sentence = "3: 'costs' N ';' (0 .. 999); NUMBERS have one to three figures";
        String[] taken = {"0", "00", "000", "1", "001", "99", "099", "998", "999"};
        for (String n : taken) {
            due("costs " + n, sound("costs " + n + ";", 1).rule(1, 3), Integer.parseInt(n));
        }
        sentence = "3: fault 2: a NUMBER of four figures or more (at its first)";
        String[] refused = {"0000", "0001", "1000", "9999", "00000", "2147483648", "4294967296", "99999999999999999999"};
        for (String n : refused) {
            faulty("costs " + n + ";", 2, 6);
            faulty("costs" + n + " x", 2, 5);
        }
    }

    // ---- words, blanks, bytes

    private static void mangled(String before, String word, String after) {
        sound(before + word + after, 1);
        int at = before.length();
        int last = word.length() - 1;
        faulty(before + word.substring(0, last) + after, 1, at);
        faulty(before + word.substring(1) + after, 1, at);
        faulty(before + word + "a" + after, 1, at);
        faulty(before + word + "z" + after, 1, at);
        faulty(before + "z" + word + after, 1, at);
        faulty(before + word + word + after, 1, at);
        faulty(before + word.toUpperCase() + after, 1, at);
        faulty(before + word.substring(0, last) + word.substring(last).toUpperCase() + after, 1, at);
        for (int i = 0; i <= last; i++) {
            faulty(before + word.substring(0, i) + "x" + word.substring(i + 1) + after, 1, at);
            faulty(before + word.substring(0, i) + (char) 200 + word.substring(i + 1) + after, 1, at);
        }
        for (int cut = 1; cut <= last; cut++) {
            faulty(before + word.substring(0, cut) + " " + word.substring(cut) + after, 1, at);
            faulty(before + word.substring(0, cut) + "5" + word.substring(cut) + after, 1, at);
            faulty(before + word.substring(0, cut) + "z" + word.substring(cut) + after, 1, at);
        }
    }

    private static void wordsAreLetters() {
        sentence = "3: words are letters a .. z side by side; no blank within; a word that cannot: at its first letter";
        for (int i = 0; i < CLAUSES.size(); i++) {
            mangled("", CLAUSES.get(i), BODIES.get(i));
        }
        for (String kind : KINDS) {
            String other = kind.equals("harm") ? "dues" : "harm";
            mangled("rides ", kind, " ship;");
            mangled("ahead ", kind, " " + other + ";");
            mangled("ahead " + other + " ", kind, ";");
            mangled("first ", kind, ";");
            mangled("behind ", kind, ";");
            mangled("dies ", kind, " 1;");
            mangled("leave ", kind, ";");
        }
        for (String fund : FUNDS) {
            String other = fund.equals("ship") ? "cargo" : "ship";
            mangled("rides wage ", fund, ";");
            mangled("rides wage ", fund, " " + other + ";");
            mangled("rides wage " + other + " ", fund, ";");
        }
        for (String within : WITHINS) {
            mangled("within ", within, ";");
        }
        faulty("a".repeat(240), 1, 0);
    }

    private static boolean isLetter(int b) {
        return b >= 'a' && b <= 'z';
    }

    private static boolean isFigure(int b) {
        return b >= '0' && b <= '9';
    }

    private static void everyByte() {
        sentence = "3: fault 1: it cannot stand there: every byte";
        for (int b = 0; b < 256; b++) {
            char sign = (char) b;
            if (b == ' ') {
                sound("" + sign, 0);
                sound("sale;" + sign, 1);
                sound("sale" + sign + ";", 1);
                faulty("costs 1" + sign + "2;", 1, 8);
                faulty("first" + sign + ";", 1, 6);
            } else {
                faulty("" + sign, 1, 0);
                faulty("sale;" + sign, 1, 5);
                faulty("sale" + sign + ";", 1, isLetter(b) ? 0 : b == ';' ? 5 : 4);
                faulty("first" + sign + ";", 1, isLetter(b) ? 0 : 5);
                if (isFigure(b)) {
                    sound("costs 1" + sign + "2;", 1);
                } else {
                    faulty("costs 1" + sign + "2;", 1, b == ';' ? 8 : 7);
                }
            }
        }
    }

    private static void blanksBetween() {
        sentence = "3: blanks (32) may stand anywhere but within words and NUMBERS";
        sound(" rides  wage   ship freight  cargo ; ahead wage  rope  ; dies rope   12 ; costs  3 ; sale ; ", 5);
        sound("rides wage ship freight cargo;ahead wage rope;dies rope12;costs3;sale;", 5);
        faulty("costs 1 2;", 1, 8);
        faulty("costs 1 2 3;", 1, 8);
        faulty("dies wage 1 2;", 1, 12);
        faulty("dies wage 0 1;", 2, 10);
        sentence = "3: two words side by side need one";
        faulty("rideswage ship;", 1, 0);
        faulty("rides wageship;", 1, 6);
        faulty("rides wage shipcargo;", 1, 11);
        faulty("aheadwage rope;", 1, 0);
        faulty("ahead wagerope;", 1, 6);
        faulty("firstwage;", 1, 0);
        faulty("behindwage;", 1, 0);
        faulty("withinparts;", 1, 0);
        faulty("dieswage 1;", 1, 0);
        faulty("leavewage;", 1, 0);
        sentence = "3: words in lines or tabs are not side by side with blanks";
        faulty("rides\twage ship;", 1, 5);
        faulty("rides\nwage ship;", 1, 5);
        faulty("sale;\nlater;", 1, 5);
        faulty("sale;\u00a0later;", 1, 5);
    }

    private static void emptyTexts() {
        sentence = "3: an empty text (or one of blanks alone) has no FAULT";
        for (int n : new int[] {0, 1, 2, 7, 8, 9, 239, 240}) {
            LastLent x = sound(" ".repeat(n), 0);
            due("costs told ahead are told no more", x.rule(1, 3), 0);
            due("dues told first are so no more", x.kind(1, 7, 2), 0);
        }
    }

    // ---- where a fault is

    /** All words that cannot stand behind a text, numbers, ';', and the end. */
    private static void cannotStand(String before, List<String> words, boolean number, boolean close) {
        int at = before.length();
        for (List<String> some : List.of(CLAUSES, KINDS, FUNDS, WITHINS)) {
            for (String word : some) {
                if (!words.contains(word)) {
                    faulty(before + word + ";", 1, at);
                    faulty(before + word, 1, at);
                }
            }
        }
        if (!number) {
            for (String n : new String[] {"0", "5", "999", "1000", "0000", "123456789012"}) {
                faulty(before + n + ";", 1, at);
                faulty(before + n, 1, at);
            }
        }
        if (!close) {
            faulty(before + ";", 1, at);
        }
    }

    private static void whereWhatMayStand() {
        sentence = "3: fault 1: it cannot stand there (a word that cannot: at its first letter)";
        List<String> none = List.of();
        cannotStand("", CLAUSES, false, false);
        cannotStand("sale;", CLAUSES, false, false);
        cannotStand("rides ", KINDS, false, false);
        cannotStand("rides wage ", FUNDS, false, false);
        cannotStand("rides wage ship ", FUNDS, false, true);
        cannotStand("rides wage ship freight cargo ", FUNDS, false, true);
        cannotStand("ahead ", KINDS, false, false);
        cannotStand("ahead wage ", KINDS, false, false);
        cannotStand("ahead wage rope ", none, false, true);
        cannotStand("within ", WITHINS, false, false);
        cannotStand("within later ", none, false, true);
        cannotStand("within parts ", none, false, true);
        cannotStand("later ", none, false, true);
        cannotStand("sale ", none, false, true);
        cannotStand("dies ", KINDS, false, false);
        cannotStand("dies wage ", none, true, false);
        cannotStand("dies wage 5 ", none, false, true);
        cannotStand("costs ", none, true, false);
        cannotStand("costs 5 ", none, false, true);
        for (String clause : new String[] {"first ", "behind ", "leave "}) {
            cannotStand(clause, KINDS, false, false);
            cannotStand(clause + "wage ", none, false, true);
        }
    }

    private static void theEnd() {
        sentence = "3: the end at the text's length";
        String[] begun = {"rides", "rides wage", "rides wage ship", "rides wage ship freight cargo", "ahead", "ahead wage",
            "ahead wage rope", "first", "first wage", "behind", "behind wage", "later", "within", "within sooner", "dies",
            "dies wage", "dies wage 5", "leave", "leave wage", "sale", "costs", "costs 5", "costs 999"};
        for (String text : begun) {
            faulty(text, 1, text.length());
            faulty(text + " ", 1, text.length() + 1);
            faulty("  " + text + "   ", 1, text.length() + 5);
            faulty("dies dues 1;" + text, 1, text.length() + 12);
        }
    }

    private static void theLeastFault() {
        sentence = "3: of these (at one byte) the least";
        faulty("1000", 1, 0);
        faulty("sale 1000;", 1, 5);
        faulty("dies 1000;", 1, 5);
        faulty("costs 5 1000;", 1, 8);
        faulty("dies wage 5 0;", 1, 12);
        sentence = "3: what is told again, but cannot stand there either";
        faulty("sale sale;", 1, 5);
        faulty("later later;", 1, 6);
        faulty("within later later;", 1, 13);
        faulty("costs 5 costs 5;", 1, 8);
        faulty("ahead wage rope rope;", 1, 16);
        faulty("ahead wage rope wage;", 1, 16);
        faulty("first wage wage;", 1, 11);
        faulty("rides wage ship wage;", 1, 16);
        faulty("rides ship ship;", 1, 6);
        faulty("within within;", 1, 7);
    }

    private static void theFirstFault() {
        sentence = "3: FAULTS, at the first byte that has one";
        faulty("sale;sale;x", 3, 5);
        faulty("x;sale;sale;", 1, 0);
        faulty("costs 1000;costs 1000;", 2, 6);
        faulty("dies wage 1000;dies wage 1;", 2, 10);
        faulty("dies wage 1;dies wage 1000;", 3, 17);
        faulty("rides wage ship;rides wage x;", 3, 22);
        faulty("rides wage ship ship x;", 3, 16);
        faulty("rides wage ship x ship;", 1, 16);
        faulty("ahead wage wage x", 3, 11);
        faulty("first wage;behind wage x", 3, 18);
        faulty("costs 5;costs 1000;", 3, 8);
        faulty("costs 1000", 2, 6);
        faulty("dies wage 0", 2, 10);
    }

    private static void fullTexts() {
        sentence = "3: a text (240 bytes at most), up to its last byte";
        String b = " ".repeat(240);
        sound(b.substring(5) + "sale;", 1);
        sound("sale;" + b.substring(5), 1);
        due("costs", sound(b.substring(10) + "costs 999;", 1).rule(1, 3), 999);
        faulty(b.substring(4) + "sale", 1, 240);
        faulty(b.substring(9) + "costs 999", 1, 240);
        faulty(b.substring(10) + "costs 9999", 2, 236);
        faulty(b.substring(6) + "sale;x", 1, 239);
        faulty(b.substring(1) + ";", 1, 239);
        faulty(b.substring(5) + "salex", 1, 235);
        faulty(b.substring(10) + "rides wage", 1, 240);
        faulty(b.substring(20) + "rides wage ship ship", 3, 236);
        faulty(b.substring(15) + "ahead wage wage", 3, 236);
        faulty(b.substring(11) + "sale; later", 1, 240);
        faulty(b.substring(10) + "sale;sale;", 3, 235);
        sentence = "3: what a longer text left behind is not read";
        LastLent x = new LastLent();
        feedText(x, "costs 123;sale;");
        x.law(0);
        feedText(x, "costs 4");
        due("law(0)", x.law(0), -11);
        due("fault()", x.fault(), 7);
        feedText(x, "costs");
        due("law(0)", x.law(0), -11);
        due("fault()", x.fault(), 5);
        due("rule(0, 3)", x.rule(0, 3), 123);
    }

    // ---- what a law tells

    private static int[] answersOf(LastLent x, int land) {
        int[] answers = new int[54];
        for (int k = 0; k < 8; k++) {
            for (int what = 0; what < 6; what++) {
                answers[6 * k + what] = x.kind(land, k, what);
            }
        }
        for (int what = 0; what < 6; what++) {
            answers[48 + what] = x.rule(land, what);
        }
        return answers;
    }

    /** Changes are pairs: a place among the answers, and what stands there. */
    private static void tellsAlone(String text, int clauses, int... changes) {
        int[] want = new int[54];
        for (int k = 0; k < 8; k++) {
            want[6 * k + 1] = 1;
        }
        for (int i = 0; i < changes.length; i += 2) {
            want[changes[i]] = changes[i + 1];
        }
        LastLent x = new LastLent();
        // Told twice and begun a third time, as what an earlier text told must not stay, wherever it is kept.
        for (int time = 0; time < 2; time++) {
            feedText(x, RICH);
            due("law(2) ahead", x.law(2), 13);
        }
        if (text.length() % 2 == 0) {
            feedText(x, RICH + "x");
            due("law(2) with a fault", x.law(2), -11);
        }
        feedText(x, text);
        due("law(2) of '" + text + "'", x.law(2), clauses);
        int[] got = answersOf(x, 2);
        for (int i = 0; i < 54; i++) {
            due((i < 48 ? "kind " + i / 6 + ", " + i % 6 : "rule " + (i - 48)) + " by '" + text + "'", got[i], want[i]);
        }
        if (!Arrays.equals(answersOf(x, 3), answersOf(new LastLent(), 3))) {
            due("another land's law is as it was", 1, 0);
        }
    }

    private static void whatIsNotTold() {
        sentence = "5, 6: what a text does not tell";
        tellsAlone("", 0);
        tellsAlone("  ", 0);
        tellsAlone("rides harm freight cargo;", 1, 37, 6);
        tellsAlone("rides wage ship;", 1);
        tellsAlone("rides dues cargo;", 1, 43, 4);
        tellsAlone("ahead wage rope;", 1, 6, 1, 52, 1);
        tellsAlone("first wage;", 1, 2, 1);
        tellsAlone("first dues;", 1, 44, 1);
        tellsAlone("behind wage;", 1, 2, -1);
        tellsAlone("behind dues;", 1, 44, -1);
        tellsAlone("later;", 1, 48, 1);
        tellsAlone("within parts;", 1);
        tellsAlone("within later;", 1, 49, 1);
        tellsAlone("within sooner;", 1, 49, 2);
        tellsAlone("dies wage 1;", 1, 3, 1);
        tellsAlone("dies dues 999;", 1, 45, 999);
        tellsAlone("leave wage;", 1, 4, 1);
        tellsAlone("leave dues;", 1, 46, 1);
        tellsAlone("sale;", 1, 50, 1);
        tellsAlone("costs 0;", 1);
        tellsAlone("costs 999;", 1, 51, 999);
        sentence = "5, 6: so is a LAND without a text";
        LastLent x = new LastLent();
        for (int land = 0; land < 4; land++) {
            int[] got = answersOf(x, land);
            for (int i = 0; i < 54; i++) {
                due("land " + land + ", " + i, got[i], i < 48 && i % 6 == 1 ? 1 : 0);
            }
        }
    }

    private static void faultOfTheLatestLaw() {
        sentence = "4: the place of the latest law() that was not UNKNOWN; NONE";
        LastLent x = new LastLent();
        due("fault() ahead of any law()", x.fault(), NONE);
        due("law(4)", x.law(4), UNKNOWN);
        due("fault() behind UNKNOWN alone", x.fault(), NONE);
        feedText(x, "x");
        due("law(0)", x.law(0), -11);
        due("fault() at the first byte", x.fault(), 0);
        due("law(4)", x.law(4), UNKNOWN);
        due("law(-1)", x.law(-1), UNKNOWN);
        due("fault() is of the one before", x.fault(), 0);
        feedText(x, "sale");
        due("fault() while a text is fed", x.fault(), 0);
        due("law(1)", x.law(1), -11);
        due("fault() of another land's text", x.fault(), 4);
        due("law(2) of an empty text", x.law(2), 0);
        due("fault() of an empty text", x.fault(), NONE);
        feedText(x, "sale;sale;");
        due("law(2)", x.law(2), -13);
        due("fault()", x.fault(), 5);
        due("fault() again", x.fault(), 5);
        x.keep(0);
        x.goBack(0);
        due("fault() is in no image", x.fault(), 5);
        feedText(x, "later;");
        due("law(3)", x.law(3), 1);
        due("fault() of a sound one", x.fault(), NONE);
    }

    private static void ranks(String text, int clauses, int ring, int... ranks) {
        LastLent x = sound(text, clauses);
        due("THE RING of '" + text + "'", x.rule(1, 5), ring);
        for (int k = 0; k < 8; k++) {
            due("RANK of " + KINDS.get(k) + " by '" + text + "'", x.kind(1, k, 0), ranks[k]);
            due(KINDS.get(k) + " in THE RING of '" + text + "'", x.kind(1, k, 5), ring >> k & 1);
        }
    }

    private static void ranksAndRings() {
        sentence = "5: RANK (0: none goes ahead)";
        ranks("", 0, 0, 0, 0, 0, 0, 0, 0, 0, 0);
        ranks("ahead wage dues;", 1, 0, 0, 0, 0, 0, 0, 0, 0, 1);
        ranks("ahead dues wage;", 1, 0, 1, 0, 0, 0, 0, 0, 0, 0);
        ranks("first dues;behind wage;", 2, 0, 0, 0, 0, 0, 0, 0, 0, 0);
        sentence = "5: RANK: the greatest number of steps to it";
        ranks("ahead wage rope;ahead rope pilot;ahead wage pilot;", 3, 0, 0, 1, 2, 0, 0, 0, 0, 0);
        ranks("ahead wage pilot;ahead rope pilot;ahead wage rope;", 3, 0, 0, 1, 2, 0, 0, 0, 0, 0);
        ranks("ahead wage rope;ahead rope pilot;ahead pilot saved;ahead saved need;ahead need pledge;ahead pledge harm;"
            + "ahead harm dues;", 7, 0, 0, 1, 2, 3, 4, 5, 6, 7);
        ranks("ahead dues harm;ahead harm pledge;ahead pledge need;ahead need saved;ahead saved pilot;ahead pilot rope;"
            + "ahead rope wage;", 7, 0, 7, 6, 5, 4, 3, 2, 1, 0);
        ranks("ahead need dues;ahead wage dues;ahead harm wage;", 3, 0, 1, 0, 0, 0, 0, 0, 0, 2);
        sentence = "5: ALIKE, if each is ahead of the other; THE RING: those that are ALIKE to another one";
        ranks("ahead wage rope;ahead rope wage;", 2, 3, 0, 0, 0, 0, 0, 0, 0, 0);
        ranks("ahead dues wage;ahead wage dues;", 2, 129, 0, 0, 0, 0, 0, 0, 0, 0);
        ranks("ahead wage rope;ahead rope pilot;ahead pilot saved;ahead saved need;ahead need pledge;ahead pledge harm;"
            + "ahead harm dues;ahead dues wage;", 8, 255, 0, 0, 0, 0, 0, 0, 0, 0);
        sentence = "5: RANK: from KINDS that are not ALIKE to it, ALIKE ones counted as one";
        ranks("ahead wage rope;ahead rope wage;ahead rope pilot;", 3, 3, 0, 0, 1, 0, 0, 0, 0, 0);
        ranks("ahead wage rope;ahead rope pilot;ahead pilot wage;ahead wage dues;", 4, 7, 0, 0, 0, 0, 0, 0, 0, 1);
        ranks("ahead dues wage;ahead wage rope;ahead rope wage;", 3, 3, 1, 1, 0, 0, 0, 0, 0, 0);
        ranks("ahead wage rope;ahead rope wage;ahead rope pilot;ahead pilot saved;ahead saved pilot;ahead saved need;"
            + "ahead wage need;", 7, 15, 0, 0, 1, 1, 2, 0, 0, 0);
        // Twelve: a ring of six, and harm and dues behind it, told in two ways each.
        ranks("ahead wage rope;ahead rope pilot;ahead pilot saved;ahead saved need;ahead need pledge;ahead pledge wage;"
            + "ahead wage harm;ahead rope harm;ahead harm dues;ahead wage dues;ahead need dues;ahead need harm;",
            12, 63, 0, 0, 0, 0, 0, 0, 1, 2);
    }

    private static void goesBySteps() {
        sentence = "7: whether KIND a goes ahead of KIND b by one or more steps";
        LastLent x = sound("ahead wage rope;ahead rope pilot;ahead pilot saved;ahead saved need;ahead need pledge;"
            + "ahead pledge harm;ahead harm dues;", 7);
        for (int a = 0; a < 8; a++) {
            for (int b = 0; b < 8; b++) {
                due("goes(1, " + a + ", " + b + ") in a line", x.goes(1, a, b), a < b ? 1 : 0);
                due("goes(0, " + a + ", " + b + ") of no text", x.goes(0, a, b), 0);
            }
        }
        x = sound("ahead wage rope;ahead rope pilot;ahead pilot wage;ahead pilot dues;first harm;behind need;", 6);
        for (int a = 0; a < 8; a++) {
            for (int b = 0; b < 8; b++) {
                boolean goes = a < 3 && (b < 3 || b == 7);
                due("goes(1, " + a + ", " + b + ") round in a ring", x.goes(1, a, b), goes ? 1 : 0);
            }
        }
    }

    private static void rulesAtTheirEdges() {
        sentence = "6: how many 'ahead': like ones count";
        due("none", sound("sale;", 1).rule(1, 4), 0);
        due("one", sound("ahead wage rope;", 1).rule(1, 4), 1);
        due("twice the same", sound("ahead wage rope;ahead wage rope;", 2).rule(1, 4), 2);
        sentence = "5, 6, 7: UNKNOWN, OUTSIDE: of both the first in the order of REFUSALS";
        LastLent x = new LastLent();
        for (int bad : new int[] {-1, LOW, HIGH}) {
            due("kind(" + bad + ", 0, " + bad + ")", x.kind(bad, 0, bad), UNKNOWN);
            due("kind(0, " + bad + ", " + bad + ")", x.kind(0, bad, bad), UNKNOWN);
            due("kind(0, 0, " + bad + ")", x.kind(0, 0, bad), OUTSIDE);
            due("rule(" + bad + ", " + bad + ")", x.rule(bad, bad), UNKNOWN);
            due("rule(0, " + bad + ")", x.rule(0, bad), OUTSIDE);
            due("goes(" + bad + ", 0, 0)", x.goes(bad, 0, 0), UNKNOWN);
            due("goes(0, " + bad + ", 0)", x.goes(0, bad, 0), UNKNOWN);
            due("goes(0, 0, " + bad + ")", x.goes(0, 0, bad), UNKNOWN);
        }
        due("kind(4, 0, 0)", x.kind(4, 0, 0), UNKNOWN);
        due("kind(3, 8, 0)", x.kind(3, 8, 0), UNKNOWN);
        due("kind(3, 7, 6)", x.kind(3, 7, 6), OUTSIDE);
        due("kind(3, 7, 5)", x.kind(3, 7, 5), 0);
        due("rule(4, 0)", x.rule(4, 0), UNKNOWN);
        due("rule(3, 6)", x.rule(3, 6), OUTSIDE);
        due("rule(3, 5)", x.rule(3, 5), 0);
        due("goes(4, 7, 7)", x.goes(4, 7, 7), UNKNOWN);
        due("goes(3, 8, 7)", x.goes(3, 8, 7), UNKNOWN);
        due("goes(3, 7, 8)", x.goes(3, 7, 8), UNKNOWN);
        due("goes(3, 7, 7)", x.goes(3, 7, 7), 0);
    }
}
