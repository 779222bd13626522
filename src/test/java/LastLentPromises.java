import java.nio.charset.StandardCharsets;

/** Promise by promise: ordinary inputs, the edges that the document names, and wrong inputs. */
public final class LastLentPromises {
    private static final int NONE = -1, UNKNOWN = -1001, OUTSIDE = -1002, NOT = -1003, FULL = -1004;
    private static final int LOW = Integer.MIN_VALUE, HIGH = Integer.MAX_VALUE;
    private static final int WAGE = 0, ROPE = 1, PILOT = 2, SAVED = 3, NEED = 4, PLEDGE = 5, HARM = 6, DUES = 7;
    private static int wrong = 0;
    private static int asked = 0;

    private static void due(String call, int got, int want) {
        asked++;
        if (got != want) {
            wrong++;
            System.out.println(call + " answered " + got + ", due is " + want);
        }
    }

    private static void feedText(LastLent x, String text) {
        byte[] bytes = text.getBytes(StandardCharsets.ISO_8859_1);
        for (int at = 0; at < bytes.length; at += 8) {
            int n = Math.min(8, bytes.length - at);
            long packed = 0;
            for (int i = 0; i < n; i++) {
                packed = packed << 8 | bytes[at + i] & 255;
            }
            x.feed(n, packed);
        }
    }

    private static void tell(LastLent x, int land, String text, int clauses) {
        feedText(x, text);
        due("law(" + land + ") of '" + text + "'", x.law(land), clauses);
    }

    private static void faulty(String text, int number, int place) {
        LastLent x = new LastLent();
        feedText(x, "costs 7;");
        x.law(1);
        feedText(x, text);
        due("law(1) of '" + text + "'", x.law(1), -10 - number);
        due("fault() of '" + text + "'", x.fault(), place);
        due("the text after the fault in '" + text + "'", x.count(2), 0);
        due("the law after the fault in '" + text + "'", x.rule(1, 3), 7);
    }

    private static void sound(String text, int clauses) {
        LastLent x = new LastLent();
        tell(x, 0, text, clauses);
        due("fault() of '" + text + "'", x.fault(), NONE);
    }

    public static void main(String[] args) {
        newObject();
        feed();
        law();
        faults();
        fault();
        kind();
        rule();
        goes();
        voyage();
        claim();
        ask();
        fund();
        ownerAndPass();
        told();
        count();
        lives();
        last();
        ahead();
        step();
        paid();
        left();
        has();
        order();
        back();
        wake();
        best();
        buy();
        clear();
        more();
        hang();
        images();
        fullShip();
        System.out.println(asked + " answers, " + wrong + " not as due");
        if (wrong != 0) {
            System.exit(1);
        }
    }

    private static void newObject() {
        LastLent x = new LastLent();
        for (int what = 0; what < 5; what++) {
            due("1: count(" + what + ")", x.count(what), 0);
        }
        for (int land = 0; land < 4; land++) {
            for (int k = 0; k < 8; k++) {
                for (int what = 0; what < 6; what++) {
                    due("1: kind(" + land + ", " + k + ", " + what + ")", x.kind(land, k, what), what == 1 ? 1 : 0);
                }
            }
            for (int what = 0; what < 6; what++) {
                due("1: rule(" + land + ", " + what + ")", x.rule(land, what), 0);
            }
        }
        due("1: fault()", x.fault(), NONE);
        due("1: goBack(0)", x.goBack(0), NOT);
        due("1: has(0, 0, 0, NONE)", x.has(0, 0, 0, NONE), 0);
        due("1: fund(4, 0)", x.fund(4, 0), 0);
        due("1: owner(2, 0)", x.owner(2, 0), 0);
    }

    private static void feed() {
        LastLent x = new LastLent();
        due("2: feed(0, 0)", x.feed(0, 0L), OUTSIDE);
        due("2: feed(9, 0)", x.feed(9, 0L), OUTSIDE);
        due("2: feed(-1, 0)", x.feed(-1, 0L), OUTSIDE);
        due("2: feed(LOW, 0)", x.feed(LOW, 0L), OUTSIDE);
        due("2: feed(HIGH, 0)", x.feed(HIGH, 0L), OUTSIDE);
        due("2: feed(1, 's' under 0xFF..)", x.feed(1, 0xFFFFFFFFFFFFFF73L), 1);
        due("2: feed(3, 'ale')", x.feed(3, 0x616C65L), 4);
        due("2: feed(1, ';')", x.feed(1, 0x3BL), 5);
        due("2: law(0)", x.law(0), 1);
        due("2: rule(0, 2)", x.rule(0, 2), 1);
        for (int n = 1; n <= 29; n++) {
            due("2: feed(8, ..)", x.feed(8, 0x2020202020202020L), 8 * n);
        }
        due("2: feed(7, ..)", x.feed(7, 0x20202020202020L), 239);
        due("2: feed(2, ..) over 240", x.feed(2, 0x2020L), FULL);
        due("2: feed(9, ..) over 240", x.feed(9, 0x2020L), OUTSIDE);
        due("2: count(2)", x.count(2), 239);
        due("2: feed(1, ..) to 240", x.feed(1, 0x20L), 240);
        due("2: feed(1, ..) over 240", x.feed(1, 0x20L), FULL);
        due("2: feed(0, ..) when full", x.feed(0, 0x20L), OUTSIDE);
        due("2: law(0) of blanks", x.law(0), 0);
        due("2: count(2)", x.count(2), 0);
    }

    private static void law() {
        LastLent x = new LastLent();
        tell(x, 3, "costs 5;later;sale;", 3);
        due("3: rule(3, 3)", x.rule(3, 3), 5);
        due("3: rule(2, 3)", x.rule(2, 3), 0);
        due("3: count(2)", x.count(2), 0);
        feedText(x, "costs 6;");
        due("3: law(4)", x.law(4), UNKNOWN);
        due("3: law(-1)", x.law(-1), UNKNOWN);
        due("3: law(LOW)", x.law(LOW), UNKNOWN);
        due("3: law(HIGH)", x.law(HIGH), UNKNOWN);
        due("3: count(2), the text stays", x.count(2), 8);
        due("3: law(3)", x.law(3), 1);
        due("3: rule(3, 3)", x.rule(3, 3), 6);
        due("3: rule(3, 0), told no more", x.rule(3, 0), 0);
        due("3: rule(3, 2), told no more", x.rule(3, 2), 0);
        due("3: law(3) of an empty text", x.law(3), 0);
        due("3: rule(3, 3)", x.rule(3, 3), 0);
        tell(x, 0, "rides wage freight;ahead wage rope;ahead rope wage;first dues;behind need;within later;"
            + "dies harm 9;leave pledge;sale;costs 1;later;", 11);
        due("3: law(0) of an empty text", x.law(0), 0);
        for (int k = 0; k < 8; k++) {
            for (int what = 0; what < 6; what++) {
                due("3: kind(0, " + k + ", " + what + ")", x.kind(0, k, what), what == 1 ? 1 : 0);
            }
        }
        for (int what = 0; what < 6; what++) {
            due("3: rule(0, " + what + ")", x.rule(0, what), 0);
        }
        sound("", 0);
        sound("   ", 0);
        sound("  rides   wage ship  freight cargo ;  ", 1);
        sound("costs0;", 1);
        sound("costs 000;", 1);
        sound("costs 999 ;", 1);
        sound("dies wage1;dies rope001;dies dues 999;", 3);
        sound("within later;later;", 2);
        sound("later;within parts;", 2);
        sound("first wage;behind rope;ahead wage rope;leave wage;dies wage 3;rides wage ship;", 6);
        sound("ahead wage rope;ahead wage rope;ahead rope wage;", 3);
        sound("ahead wage rope;".repeat(12), 12);
        sound("first wage;first rope;first pilot;first saved;first need;first pledge;first harm;first dues;", 8);
        sound("leave wage;leave rope;leave pilot;leave saved;leave need;leave pledge;leave harm;leave dues;", 8);
    }

    private static void faults() {
        faulty("x", 1, 0);
        faulty(";", 1, 0);
        faulty("  ;", 1, 2);
        faulty("sale;;", 1, 5);
        faulty("7", 1, 0);
        faulty("12345", 1, 0);
        faulty("Sale;", 1, 0);
        faulty("sale\t;", 1, 4);
        faulty("sale\n", 1, 4);
        faulty("sale!;", 1, 4);
        faulty("sale;\u0000", 1, 5);
        faulty("sale;\u00ff", 1, 5);
        faulty("s ale;", 1, 0);
        faulty("sales;", 1, 0);
        faulty("sal", 1, 0);
        faulty("sale", 1, 4);
        faulty("sale   ", 1, 7);
        faulty("sale 1;", 1, 5);
        faulty("sale later;", 1, 5);
        faulty("saleship;", 1, 0);
        faulty("salez;", 1, 0);
        faulty("sale`;", 1, 4);
        faulty("sale{;", 1, 4);
        faulty("costs /;", 1, 6);
        faulty("costs :;", 1, 6);
        faulty("ridesridesrides", 1, 0);
        faulty("rides", 1, 5);
        faulty("rides ship;", 1, 6);
        faulty("rides wage;", 1, 10);
        faulty("rides wage", 1, 10);
        faulty("rides wage ship", 1, 15);
        faulty("rides wage ship rope;", 1, 16);
        faulty("rides wage ship5;", 1, 15);
        faulty("rides wageship;", 1, 6);
        faulty("rides wage ship ship;", 3, 16);
        faulty("rides wage ship freight cargo ship;", 3, 30);
        faulty("rides wage ship freight cargo wage;", 1, 30);
        faulty("rides wage ship freight ship cargo;", 3, 24);
        faulty("rides wage ship;rides wage ship;", 3, 22);
        faulty("rides wage ship;rides wage;", 3, 22);
        faulty("rides wage ship;rides rope ship;rides wage ship;", 3, 38);
        faulty("ahead wage;", 1, 10);
        faulty("ahead wage wage;", 3, 11);
        faulty("ahead wage wages;", 1, 11);
        faulty("ahead wage rope pilot;", 1, 16);
        faulty("ahead wage rope;".repeat(12) + "ahead wage rope;", 3, 192);
        faulty("ahead wage rope;".repeat(12) + "aheads", 1, 192);
        faulty("ahead wage rope;".repeat(12) + "ahead", 3, 192);
        faulty("first;", 1, 5);
        faulty("first wage;first wage;", 3, 17);
        faulty("first wage;behind wage;", 3, 18);
        faulty("behind wage;behind wage;", 3, 19);
        faulty("behind wage;first wage;", 3, 18);
        faulty("first wage;first rope;first wage;", 3, 28);
        faulty("behind wage;behind rope;first wage;", 3, 30);
        faulty("first ship;", 1, 6);
        faulty("later;later;", 3, 6);
        faulty("later; later", 3, 7);
        faulty("later;laters;", 1, 6);
        faulty("within;", 1, 6);
        faulty("within sale;", 1, 7);
        faulty("within parts;within parts;", 3, 13);
        faulty("within parts;within x;", 3, 13);
        faulty("sale;sale;", 3, 5);
        faulty("sale;later;within parts;costs 5;sale;", 3, 32);
        faulty("first ;", 1, 6);
        faulty("behind first;", 1, 7);
        faulty("ahead ;", 1, 6);
        faulty("costs;", 1, 5);
        faulty("costs -1;", 1, 6);
        faulty("costs wage;", 1, 6);
        faulty("costs 1000;", 2, 6);
        faulty("costs 0000;", 2, 6);
        faulty("costs 99999999999999999999;", 2, 6);
        faulty("costs 4294967296;", 2, 6);
        faulty("costs 1 0;", 1, 8);
        faulty("costs 1;costs 1;", 3, 8);
        faulty("costs 5x;", 1, 7);
        faulty("costs 5", 1, 7);
        faulty("dies wage;", 1, 9);
        faulty("dies 5 wage;", 1, 5);
        faulty("dies wage 0;", 2, 10);
        faulty("dies wage000;", 2, 9);
        faulty("dies wage 1000;", 2, 10);
        faulty("dies wage 0001;", 2, 10);
        faulty("dies wage 5;dies wage 6;", 3, 17);
        faulty("dies wage 5;dies wage 0;", 3, 17);
        faulty("dies wage 5;dies rope 5;dies wage 5;", 3, 29);
        faulty("leave wage;leave rope;leave wage;", 3, 28);
        faulty("leave;", 1, 5);
        faulty("leave wage;leave wage;", 3, 17);
        faulty("leave wage 3;", 1, 11);
        faulty("leave wage;x leave wage;", 1, 11);
        String blanks = " ".repeat(230);
        faulty(blanks + "     sale ", 1, 240);
        faulty(blanks + "      sale", 1, 240);
        faulty(blanks + "   costs 5", 1, 240);
        faulty(blanks + " costs5 ;;", 1, 239);
        sound(blanks + "     sale;", 1);
        LastLent x = new LastLent();
        tell(x, 0, "costs 123;", 1);
        feedText(x, "costs 1");
        due("3: a longer text before leaves nothing", x.law(0), -11);
        due("4: at the text's length", x.fault(), 7);
    }

    private static void fault() {
        LastLent x = new LastLent();
        due("4: fault() of a new one", x.fault(), NONE);
        feedText(x, "sale");
        x.law(0);
        due("4: fault() at the end", x.fault(), 4);
        due("4: law(9)", x.law(9), UNKNOWN);
        due("4: fault() of the one before", x.fault(), 4);
        due("4: fault() again", x.fault(), 4);
        tell(x, 2, "sale;", 1);
        due("4: fault() of a sound one", x.fault(), NONE);
    }

    private static void kind() {
        LastLent x = new LastLent();
        tell(x, 1, "ahead wage rope;ahead rope pilot;ahead pilot rope;ahead pilot saved;ahead wage saved;"
            + "rides wage freight cargo;rides dues cargo;first need;behind harm;dies need 12;leave rope;", 11);
        int[] ranks = {0, 1, 1, 2, 0, 0, 0, 0};
        int[] rides = {6, 1, 1, 1, 1, 1, 1, 4};
        int[] places = {0, 0, 0, 0, 1, 0, -1, 0};
        int[] dies = {0, 0, 0, 0, 12, 0, 0, 0};
        int[] leave = {0, 1, 0, 0, 0, 0, 0, 0};
        int[] ring = {0, 1, 1, 0, 0, 0, 0, 0};
        int[][] all = {ranks, rides, places, dies, leave, ring};
        for (int what = 0; what < 6; what++) {
            for (int k = 0; k < 8; k++) {
                due("5: kind(1, " + k + ", " + what + ")", x.kind(1, k, what), all[what][k]);
            }
        }
        due("5: rule(1, 5)", x.rule(1, 5), 6);
        due("5: kind(4, 0, 0)", x.kind(4, 0, 0), UNKNOWN);
        due("5: kind(-1, 0, 0)", x.kind(-1, 0, 0), UNKNOWN);
        due("5: kind(0, 8, 0)", x.kind(0, 8, 0), UNKNOWN);
        due("5: kind(0, -1, 9)", x.kind(0, -1, 9), UNKNOWN);
        due("5: kind(0, 0, 6)", x.kind(0, 0, 6), OUTSIDE);
        due("5: kind(0, 0, -1)", x.kind(0, 0, -1), OUTSIDE);
        tell(x, 0, "ahead dues harm;ahead harm pledge;ahead pledge need;ahead need saved;ahead saved pilot;"
            + "ahead pilot rope;ahead rope wage;", 7);
        for (int k = 0; k < 8; k++) {
            due("5: the rank of " + k + " in a line", x.kind(0, k, 0), 7 - k);
        }
        tell(x, 0, "ahead wage rope;ahead rope wage;ahead pilot saved;ahead saved pilot;ahead rope pilot;"
            + "ahead saved need;ahead wage need;", 7);
        int[] twoRings = {0, 0, 1, 1, 2, 0, 0, 0};
        for (int k = 0; k < 8; k++) {
            due("5: the rank of " + k + " by two rings", x.kind(0, k, 0), twoRings[k]);
        }
        due("5: rule(0, 5) of two rings", x.rule(0, 5), 15);
    }

    private static void rule() {
        LastLent x = new LastLent();
        tell(x, 2, "later;within sooner;sale;costs 999;ahead wage rope;ahead wage rope;ahead rope wage;", 7);
        int[] due = {1, 2, 1, 999, 3, 3};
        for (int what = 0; what < 6; what++) {
            due("6: rule(2, " + what + ")", x.rule(2, what), due[what]);
        }
        tell(x, 2, "within later;", 1);
        due("6: rule(2, 1)", x.rule(2, 1), 1);
        due("6: rule(2, 4)", x.rule(2, 4), 0);
        tell(x, 2, "within parts;", 1);
        due("6: rule(2, 1)", x.rule(2, 1), 0);
        due("6: rule(4, 0)", x.rule(4, 0), UNKNOWN);
        due("6: rule(-1, 9)", x.rule(-1, 9), UNKNOWN);
        due("6: rule(0, 6)", x.rule(0, 6), OUTSIDE);
        due("6: rule(0, -1)", x.rule(0, -1), OUTSIDE);
    }

    private static void goes() {
        LastLent x = new LastLent();
        tell(x, 0, "ahead wage rope;ahead rope pilot;ahead need harm;ahead harm need;first dues;", 5);
        due("7: goes(0, wage, rope)", x.goes(0, WAGE, ROPE), 1);
        due("7: goes(0, wage, pilot)", x.goes(0, WAGE, PILOT), 1);
        due("7: goes(0, pilot, wage)", x.goes(0, PILOT, WAGE), 0);
        due("7: goes(0, wage, wage)", x.goes(0, WAGE, WAGE), 0);
        due("7: goes(0, need, need)", x.goes(0, NEED, NEED), 1);
        due("7: goes(0, harm, need)", x.goes(0, HARM, NEED), 1);
        due("7: goes(0, dues, wage), by 'first' alone", x.goes(0, DUES, WAGE), 0);
        due("7: goes(1, wage, rope)", x.goes(1, WAGE, ROPE), 0);
        due("7: goes(4, 0, 0)", x.goes(4, 0, 0), UNKNOWN);
        due("7: goes(0, 8, 0)", x.goes(0, 8, 0), UNKNOWN);
        due("7: goes(0, 0, -1)", x.goes(0, 0, -1), UNKNOWN);
    }

    private static void voyage() {
        LastLent x = new LastLent();
        due("8: voyage(-1, 5)", x.voyage(-1, 5), OUTSIDE);
        due("8: voyage(5, 1000)", x.voyage(5, 1000), OUTSIDE);
        due("8: voyage(5, 4)", x.voyage(5, 4), OUTSIDE);
        due("8: voyage(0, 0)", x.voyage(0, 0), 0);
        due("8: voyage(0, 3)", x.voyage(0, 3), NOT);
        due("8: voyage(1, 10)", x.voyage(1, 10), 1);
        due("8: voyage(10, 12)", x.voyage(10, 12), NOT);
        due("8: voyage(10, 9)", x.voyage(10, 9), OUTSIDE);
        due("8: voyage(11, 12)", x.voyage(11, 12), 2);
        due("8: voyage(20, 20)", x.voyage(20, 20), 3);
        due("8: voyage(21, 22)", x.voyage(21, 22), 4);
        due("8: voyage(23, 24)", x.voyage(23, 24), 5);
        due("8: voyage(25, 26) when full", x.voyage(25, 26), FULL);
        due("8: voyage(24, 26) when full", x.voyage(24, 26), NOT);
        due("8: voyage(24, 23) when full", x.voyage(24, 23), OUTSIDE);
        due("8: count(0)", x.count(0), 6);
    }

    private static void claim() {
        LastLent x = new LastLent();
        due("9: kind -1", x.claim(-1, 0, 0, 1, true, 0), UNKNOWN);
        due("9: kind 8", x.claim(8, 0, -1, 0, true, 0), UNKNOWN);
        due("9: holder -1", x.claim(0, -1, 0, 1, true, 0), UNKNOWN);
        due("9: holder 6", x.claim(0, 6, 0, 1, true, 0), UNKNOWN);
        due("9: cargoes 8", x.claim(0, 0, 1000, 1, true, 8), UNKNOWN);
        due("9: cargoes -1", x.claim(0, 0, 0, 1, true, -1), UNKNOWN);
        due("9: cargoes LOW", x.claim(0, 0, 0, 1, true, LOW), UNKNOWN);
        due("9: day -1", x.claim(0, 0, -1, 1, true, 0), OUTSIDE);
        due("9: day 1000", x.claim(0, 0, 1000, 1, true, 0), OUTSIDE);
        due("9: amount 0", x.claim(0, 0, 0, 0, true, 0), OUTSIDE);
        due("9: amount 1000", x.claim(0, 0, 0, 1000, true, 0), OUTSIDE);
        due("9: count(1)", x.count(1), 0);
        for (int c = 0; c < 14; c++) {
            due("9: claim " + c, x.claim(c % 8, c % 6, 999, 999, c % 2 == 0, c % 8), c);
        }
        due("9: a fifteenth", x.claim(0, 0, 0, 1, true, 7), FULL);
        due("9: a fifteenth of day 1000", x.claim(0, 0, 1000, 1, true, 7), OUTSIDE);
        due("9: a fifteenth of kind 8", x.claim(8, 0, 1000, 1, true, 7), UNKNOWN);
        due("9: count(1)", x.count(1), 14);
    }

    private static void ask() {
        LastLent x = new LastLent();
        due("10: ask(0, 5) without claims", x.ask(0, 5), UNKNOWN);
        x.claim(0, 0, 5, 10, true, 0);
        due("10: ask(0, 5)", x.ask(0, 5), NONE);
        due("10: ask(0, 0)", x.ask(0, 0), 5);
        due("10: ask(0, 999)", x.ask(0, 999), 0);
        due("10: ask(0, NONE)", x.ask(0, NONE), 999);
        due("10: ask(0, -2)", x.ask(0, -2), OUTSIDE);
        due("10: ask(0, 1000)", x.ask(0, 1000), OUTSIDE);
        due("10: ask(1, 1000)", x.ask(1, 1000), UNKNOWN);
        due("10: ask(-1, 0)", x.ask(-1, 0), UNKNOWN);
        due("10: told(0, 6)", x.told(0, 6), NONE);
    }

    private static void fund() {
        LastLent x = new LastLent();
        for (int f = 0; f < 5; f++) {
            due("11: fund(" + f + ", 9999)", x.fund(f, 9999), 0);
            due("11: fund(" + f + ", 0)", x.fund(f, f), 9999);
        }
        due("11: count(4)", x.count(4), 10);
        due("11: fund(5, 10000)", x.fund(5, 10000), UNKNOWN);
        due("11: fund(-1, 0)", x.fund(-1, 0), UNKNOWN);
        due("11: fund(0, 10000)", x.fund(0, 10000), OUTSIDE);
        due("11: fund(0, -1)", x.fund(0, -1), OUTSIDE);
        due("11: count(4)", x.count(4), 10);
    }

    private static void ownerAndPass() {
        LastLent x = new LastLent();
        due("12: owner(2, 5)", x.owner(2, 5), 0);
        due("12: owner(2, 5)", x.owner(2, 5), 5);
        due("12: owner(0, 1)", x.owner(0, 1), 0);
        due("12: owner(3, 0)", x.owner(3, 0), UNKNOWN);
        due("12: owner(-1, 0)", x.owner(-1, 0), UNKNOWN);
        due("12: owner(0, 6)", x.owner(0, 6), UNKNOWN);
        due("12: owner(0, NONE)", x.owner(0, NONE), UNKNOWN);
        due("12: owner(0, 0)", x.owner(0, 0), 1);
        due("13: pass(0, 0)", x.pass(0, 0), UNKNOWN);
        x.claim(0, 4, 5, 10, true, 0);
        due("13: pass(0, 2)", x.pass(0, 2), 4);
        due("13: pass(0, 2)", x.pass(0, 2), 2);
        due("13: pass(0, 6)", x.pass(0, 6), UNKNOWN);
        due("13: pass(0, -1)", x.pass(0, -1), UNKNOWN);
        due("13: pass(1, 0)", x.pass(1, 0), UNKNOWN);
        due("13: told(0, 1)", x.told(0, 1), 2);
    }

    private static void told() {
        LastLent x = new LastLent();
        x.voyage(10, 20);
        x.voyage(30, 40);
        x.claim(HARM, 5, 9, 999, false, 6);
        x.claim(ROPE, 1, 10, 1, true, 0);
        x.claim(ROPE, 1, 29, 1, true, 0);
        x.claim(ROPE, 1, 30, 1, true, 0);
        x.claim(ROPE, 1, 999, 1, true, 0);
        x.ask(0, 77);
        int[] due = {HARM, 5, 9, 999, 0, 6, 77, NONE};
        for (int what = 0; what < 8; what++) {
            due("14: told(0, " + what + ")", x.told(0, what), due[what]);
        }
        due("14: told(1, 4)", x.told(1, 4), 1);
        due("14: told(1, 6)", x.told(1, 6), NONE);
        int[] voyages = {NONE, 0, 0, 1, 1};
        for (int c = 0; c < 5; c++) {
            due("14: told(" + c + ", 7)", x.told(c, 7), voyages[c]);
        }
        due("14: told(5, 8)", x.told(5, 8), UNKNOWN);
        due("14: told(-1, 0)", x.told(-1, 0), UNKNOWN);
        due("14: told(0, 8)", x.told(0, 8), OUTSIDE);
        due("14: told(0, -1)", x.told(0, -1), OUTSIDE);
    }

    private static void count() {
        LastLent x = new LastLent();
        x.voyage(1, 2);
        x.claim(0, 0, 5, 999, true, 0);
        x.claim(0, 0, 5, 11, true, 0);
        x.fund(0, 9999);
        x.fund(4, 1);
        x.feed(3, 0L);
        int[] due = {1, 2, 3, 1010, 10000};
        for (int what = 0; what < 5; what++) {
            due("15: count(" + what + ")", x.count(what), due[what]);
        }
        due("15: count(5)", x.count(5), OUTSIDE);
        due("15: count(-1)", x.count(-1), OUTSIDE);
    }

    private static void lives() {
        LastLent x = new LastLent();
        tell(x, 0, "dies rope 10;sale;leave rope;", 3);
        tell(x, 1, "dies rope 10;", 1);
        x.claim(ROPE, 0, 5, 10, false, 0);
        due("16: its day is later, of all four the first", x.lives(0, 4, 0), 1);
        due("16: sale and leave", x.lives(0, 5, 0), 3);
        due("16: the last day of ten", x.lives(1, 15, 0), 0);
        due("16: the day after", x.lives(1, 16, 0), 2);
        due("16: dies ahead of sale", x.lives(0, 16, 0), 2);
        x.ask(0, 15);
        due("16: asked on the last day", x.lives(1, 16, 0), 0);
        due("16: asked on the last day, 999", x.lives(1, 999, 0), 0);
        due("16: asked later than d under sale", x.lives(0, 14, 0), 3);
        due("16: asked on d under sale, no leave", x.lives(0, 15, 0), 4);
        x.ask(0, 16);
        due("16: asked too late", x.lives(1, 16, 0), 2);
        due("16: asked too late, but it is early", x.lives(1, 15, 0), 0);
        x.ask(0, 0);
        due("16: asked ahead of its day", x.lives(1, 16, 0), 0);
        due("16: a law that tells nothing", x.lives(2, 999, 0), 0);
        due("16: lives(4, 1000, 0)", x.lives(4, 1000, 0), UNKNOWN);
        due("16: lives(0, 0, 1)", x.lives(0, 0, 1), UNKNOWN);
        due("16: lives(0, 0, -1)", x.lives(0, 0, -1), UNKNOWN);
        due("16: lives(0, 1000, 0)", x.lives(0, 1000, 0), OUTSIDE);
        due("16: lives(0, -1, 0)", x.lives(0, -1, 0), OUTSIDE);
    }

    private static void last() {
        LastLent x = new LastLent();
        tell(x, 0, "dies rope 10;", 1);
        tell(x, 1, "sale;", 1);
        tell(x, 2, "leave rope;", 1);
        tell(x, 3, "dies rope 10;sale;", 2);
        x.claim(ROPE, 0, 5, 10, false, 0);
        due("17: dies", x.last(0, 0), 15);
        due("17: asleep under sale", x.last(1, 0), NONE);
        due("17: no leave", x.last(2, 0), NONE);
        x.ask(0, 15);
        due("17: asked in time", x.last(0, 0), 999);
        due("17: asked under sale", x.last(1, 0), 999);
        due("17: asked in time under sale", x.last(3, 0), 999);
        x.ask(0, 16);
        due("17: asked too late", x.last(0, 0), 15);
        due("17: asked too late under sale", x.last(3, 0), NONE);
        x.claim(ROPE, 0, 995, 10, true, 0);
        due("17: its ten days go over 999", x.last(0, 1), 999);
        due("17: with leave", x.last(2, 1), 999);
        x.claim(WAGE, 0, 999, 10, true, 0);
        due("17: of day 999", x.last(0, 2), 999);
        due("17: last(4, 0)", x.last(4, 0), UNKNOWN);
        due("17: last(0, 3)", x.last(0, 3), UNKNOWN);
        due("17: last(0, NONE)", x.last(0, NONE), UNKNOWN);
    }

    private static void ahead() {
        LastLent x = new LastLent();
        tell(x, 0, "first dues;first saved;behind harm;behind pledge;later;ahead wage rope;ahead saved dues;"
            + "ahead harm pledge;within later;", 9);
        x.voyage(10, 20);
        x.voyage(30, 40);
        int old = x.claim(WAGE, 0, 5, 10, true, 0);
        int wage0 = x.claim(WAGE, 0, 15, 10, true, 0);
        int rope0 = x.claim(ROPE, 0, 16, 10, true, 0);
        int rope1 = x.claim(ROPE, 0, 35, 10, true, 0);
        int dues0 = x.claim(DUES, 0, 15, 10, true, 0);
        int saved = x.claim(SAVED, 0, 5, 10, true, 0);
        int harm = x.claim(HARM, 0, 5, 10, true, 0);
        int pledge = x.claim(PLEDGE, 0, 35, 10, true, 0);
        int wageLater = x.claim(WAGE, 0, 17, 10, true, 0);
        int wageSame = x.claim(WAGE, 0, 17, 10, true, 0);
        due("18: the later voyage", x.ahead(0, rope1, wage0), 1);
        due("18: the lesser rank", x.ahead(0, rope0, wage0), -1);
        due("18: of no voyage", x.ahead(0, old, rope0), -1);
        due("18: first", x.ahead(0, dues0, rope1), 1);
        due("18: of two first ones by rank, not by voyage", x.ahead(0, dues0, saved), -1);
        due("18: behind", x.ahead(0, pledge, old), -1);
        due("18: of two behind by rank, not by voyage", x.ahead(0, harm, pledge), 1);
        due("18: first and behind", x.ahead(0, harm, dues0), -1);
        due("18: within by the later day", x.ahead(0, wageLater, wage0), 1);
        due("18: the same day", x.ahead(0, wageLater, wageSame), 0);
        due("18: itself", x.ahead(0, old, old), 0);
        due("18: under a law that tells nothing", x.ahead(1, old, dues0), 0);
        tell(x, 2, "within sooner;", 1);
        due("18: within by the sooner day", x.ahead(2, wageLater, wage0), -1);
        LastLent y = new LastLent();
        tell(y, 0, "ahead wage rope;within later;later;", 3);
        y.claim(WAGE, 0, 0, 10, true, 0);
        y.claim(ROPE, 0, 999, 10, true, 0);
        due("18: the rank decides ahead of any day", y.ahead(0, 0, 1), 1);
        y.voyage(999, 999);
        due("18: the voyage decides ahead of the rank", y.ahead(0, 0, 1), -1);
        due("18: ahead(4, 0, 0)", x.ahead(4, 0, 0), UNKNOWN);
        due("18: ahead(0, 10, 0)", x.ahead(0, 10, 0), UNKNOWN);
        due("18: ahead(0, 0, -1)", x.ahead(0, 0, -1), UNKNOWN);
    }

    private static void step() {
        LastLent x = new LastLent();
        tell(x, 0, "rides wage ship cargo;rides rope freight;ahead wage rope;ahead rope pilot;ahead pilot saved;", 5);
        x.claim(SAVED, 0, 5, 10, true, 0);
        x.claim(WAGE, 0, 5, 10, true, 5);
        x.claim(ROPE, 0, 5, 10, true, 7);
        x.claim(PILOT, 0, 6, 10, true, 0);
        x.claim(PILOT, 0, 5, 10, true, 0);
        due("19: wage on the ship", x.step(0, 6, 0, 1), 0);
        due("19: pilot on the ship, no rope there", x.step(0, 6, 0, 3), 1);
        due("19: pilot alike", x.step(0, 6, 0, 4), 1);
        due("19: saved behind them", x.step(0, 6, 0, 0), 2);
        due("19: rope not on the ship", x.step(0, 6, 0, 2), NONE);
        due("19: rope on freight", x.step(0, 6, 1, 2), 0);
        due("19: rope not on cargo", x.step(0, 6, 2, 2), NONE);
        due("19: wage on cargo 0", x.step(0, 6, 2, 1), 0);
        due("19: wage not on cargo 1", x.step(0, 6, 3, 1), NONE);
        due("19: wage on cargo 2", x.step(0, 6, 4, 1), 0);
        due("19: one that does not live yet", x.step(0, 5, 0, 3), NONE);
        due("19: step(4, 1000, 0, 0)", x.step(4, 1000, 0, 0), UNKNOWN);
        due("19: step(0, 0, 5, 0)", x.step(0, 0, 5, 0), UNKNOWN);
        due("19: step(0, 0, 0, 5)", x.step(0, 0, 0, 5), UNKNOWN);
        due("19: step(0, 0, 0, -1)", x.step(0, 0, 0, -1), UNKNOWN);
        due("19: step(0, 1000, 0, 0)", x.step(0, 1000, 0, 0), OUTSIDE);
        due("19: step(0, -1, 0, 0)", x.step(0, -1, 0, 0), OUTSIDE);
    }

    /** Wage 100 on ship and freight; rope 60 on freight; costs 20. */
    private static LastLent wageAndRope() {
        LastLent x = new LastLent();
        feedText(x, "rides wage ship freight;rides rope freight;costs 20;ahead wage rope;");
        x.law(0);
        x.claim(WAGE, 1, 1, 100, true, 0);
        x.claim(ROPE, 2, 2, 60, true, 0);
        x.fund(0, 100);
        x.fund(1, 50);
        return x;
    }

    private static void refusedByLandDayWay(String name, int land, int day, int way, int both) {
        due(name + " of land 4", land, UNKNOWN);
        due(name + " on day 1000", day, OUTSIDE);
        due(name + " by way 2", way, OUTSIDE);
        due(name + " of land -1, day -1, way -1", both, UNKNOWN);
    }

    private static void paid() {
        LastLent x = wageAndRope();
        due("20: wage has 80 of ship, 20 of freight", x.paid(0, 9, 0, 0), 100);
        due("20: rope has 30 of freight", x.paid(0, 9, 0, 1), 30);
        due("20: none lives", x.paid(0, 0, 0, 0), 0);
        x.fund(0, 15);
        due("20: costs take all of the ship", x.paid(0, 9, 0, 0), 50);
        LastLent y = new LastLent();
        for (int c = 0; c < 3; c++) {
            y.claim(WAGE, c, 5, 7, true, 0);
        }
        y.fund(0, 20);
        due("20: what is over goes to the least", y.paid(0, 5, 0, 0), 7);
        due("20: what is over goes to the next", y.paid(0, 5, 0, 1), 7);
        due("20: what is over ends", y.paid(0, 5, 0, 2), 6);
        y.fund(0, 2);
        due("20: a fund of two", y.paid(0, 5, 0, 1), 1);
        due("20: a fund of two", y.paid(0, 5, 0, 2), 0);
        refusedByLandDayWay("20: paid", x.paid(4, 0, 0, 0), x.paid(0, 1000, 0, 0), x.paid(0, 0, 2, 0),
            x.paid(-1, -1, -1, 0));
        due("20: paid(0, 1000, 0, 2)", x.paid(0, 1000, 0, 2), UNKNOWN);
        due("20: paid(0, 0, 0, -1)", x.paid(0, 0, 0, -1), UNKNOWN);
        due("20: paid(0, -1, 0, 0)", x.paid(0, -1, 0, 0), OUTSIDE);
        due("20: paid(0, 0, -1, 0)", x.paid(0, 0, -1, 0), OUTSIDE);
    }

    private static void left() {
        LastLent x = wageAndRope();
        due("21: ship", x.left(0, 9, 0, 0), 0);
        x.fund(0, 130);
        due("21: ship with 10 over", x.left(0, 9, 0, 0), 10);
        due("21: freight", x.left(0, 9, 0, 1), 0);
        x.fund(1, 65);
        due("21: freight with 5 over", x.left(0, 9, 0, 1), 5);
        due("21: freight on a day on which none lives", x.left(0, 0, 0, 1), 65);
        due("21: ship on that day, less costs", x.left(0, 0, 0, 0), 110);
        x.fund(4, 9);
        due("21: cargo 2", x.left(0, 9, 1, 4), 9);
        refusedByLandDayWay("21: left", x.left(4, 0, 0, 0), x.left(0, 1000, 0, 0), x.left(0, 0, 2, 0),
            x.left(-1, -1, -1, 0));
        due("21: left(0, 1000, 0, 5)", x.left(0, 1000, 0, 5), UNKNOWN);
        due("21: left(0, 0, 0, -1)", x.left(0, 0, 0, -1), UNKNOWN);
    }

    private static void has() {
        LastLent x = wageAndRope();
        x.fund(2, 40);
        x.fund(3, 7);
        x.owner(0, 2);
        due("22: holder 1", x.has(0, 9, 0, 1), 100);
        due("22: holder 2, cargo 0 too", x.has(0, 9, 0, 2), 70);
        due("22: holder 0, cargoes 1 and 2", x.has(0, 9, 0, 0), 7);
        due("22: all claims", x.has(0, 9, 0, NONE), 130);
        due("22: holder 5", x.has(0, 9, 0, 5), 0);
        refusedByLandDayWay("22: has", x.has(4, 0, 0, 0), x.has(0, 1000, 0, 0), x.has(0, 0, 2, 0),
            x.has(-1, -1, -1, 0));
        due("22: has(0, 1000, 0, 6)", x.has(0, 1000, 0, 6), UNKNOWN);
        due("22: has(0, 0, 0, -2)", x.has(0, 0, 0, -2), UNKNOWN);
        due("22: has(0, 1000, 0, NONE)", x.has(0, 1000, 0, NONE), OUTSIDE);
    }

    private static void order() {
        LastLent x = new LastLent();
        tell(x, 0, "rides wage ship cargo;rides rope ship;", 2);
        x.claim(WAGE, 1, 1, 100, true, 4);
        x.claim(ROPE, 2, 2, 60, true, 0);
        x.fund(0, 60);
        x.fund(4, 100);
        for (int i = 0; i < 5; i++) {
            due("23: straight", x.order(0, 9, 0, i), i);
        }
        int[] marshalled = {1, 2, 3, 4, 0};
        for (int i = 0; i < 5; i++) {
            due("23: marshalled, the first of like ones", x.order(0, 9, 1, i), marshalled[i]);
        }
        due("23: marshalled pays all", x.has(0, 9, 1, NONE), 160);
        due("23: straight: 38 and 22, then 62", x.has(0, 9, 0, NONE), 122);
        x.fund(0, 160);
        for (int i = 0; i < 5; i++) {
            due("23: marshalled, where straight pays all", x.order(0, 9, 1, i), i);
        }
        LastLent y = new LastLent();
        tell(y, 0, "rides wage freight cargo;rides rope freight;rides pilot cargo;", 3);
        y.claim(WAGE, 1, 1, 10, true, 4);
        y.claim(ROPE, 2, 1, 10, true, 0);
        y.claim(PILOT, 3, 1, 10, true, 4);
        y.fund(1, 15);
        y.fund(4, 15);
        // Either fund first: 8 and 7 of it, then 2 and 10 of the other; in no order all 30 are paid.
        due("23: no order pays all", y.has(0, 9, 1, NONE), 27);
        for (int i = 0; i < 5; i++) {
            due("23: of like ones the first", y.order(0, 9, 1, i), i);
        }
        y.fund(4, 14);
        // Freight first: 8, 7, then 2, 10. Cargo 2 first: 7, 7, then 3, 10. Both 27.
        due("23: both 27", y.has(0, 9, 1, NONE), 27);
        y.fund(1, 13);
        // Freight first: 7, 6, then 3, 10 are 26; cargo 2 first: 7, 7, then 3, 10 are 27.
        due("23: cargo 2 first", y.has(0, 9, 1, NONE), 27);
        int[] cargoFirst = {0, 2, 3, 4, 1};
        for (int i = 0; i < 5; i++) {
            due("23: cargo 2 ahead of freight", y.order(0, 9, 1, i), cargoFirst[i]);
        }
        refusedByLandDayWay("23: order", x.order(4, 0, 0, 0), x.order(0, 1000, 0, 0), x.order(0, 0, 2, 0),
            x.order(-1, -1, -1, 0));
        due("23: order(0, 1000, 0, 5)", x.order(0, 1000, 0, 5), UNKNOWN);
        due("23: order(0, 0, 0, -1)", x.order(0, 0, 0, -1), UNKNOWN);
    }

    private static void back() {
        LastLent x = new LastLent();
        tell(x, 0, "rides need ship cargo;rides harm cargo;", 2);
        x.claim(NEED, 1, 1, 100, true, 5);
        x.claim(WAGE, 2, 2, 30, true, 7);
        x.claim(HARM, 3, 3, 20, true, 2);
        x.fund(0, 61);
        x.fund(2, 60);
        x.fund(3, 20);
        x.fund(4, 50);
        // Straight: of the ship need has 46 and one over, wage 14; of cargo 0 need has 53; of cargo 1 harm has 20.
        due("24: straight: cargo 0 asks", x.back(0, 9, 0, 0, 0), 53);
        due("24: straight: harm does not ride on the ship", x.back(0, 9, 0, 1, 0), 0);
        due("24: straight: cargo 2 asks", x.back(0, 9, 0, 2, 0), 0);
        due("24: straight: nothing is left of the ship", x.back(0, 9, 0, 0, 1), 0);
        // Marshalled 1, 2, 3, 4, 0: need has 60 and 40, wage 30; 31 are left of the ship.
        due("24: all are paid", x.has(0, 9, 1, NONE), 150);
        due("24: cargo 0 asks", x.back(0, 9, 1, 0, 0), 60);
        due("24: cargo 1 asks", x.back(0, 9, 1, 1, 0), 0);
        due("24: cargo 2 asks", x.back(0, 9, 1, 2, 0), 40);
        due("24: cargo 0 has 18 and the one over", x.back(0, 9, 1, 0, 1), 19);
        due("24: cargo 1 asked nothing", x.back(0, 9, 1, 1, 1), 0);
        due("24: cargo 2 has 12", x.back(0, 9, 1, 2, 1), 12);
        due("24: what is left of the ship is so before", x.left(0, 9, 1, 0), 31);
        x.fund(0, 130);
        due("24: the ship pays all", x.back(0, 9, 0, 0, 0), 0);
        due("24: and nothing comes", x.back(0, 9, 0, 0, 1), 0);
        LastLent y = new LastLent();
        tell(y, 0, "rides need ship cargo;", 1);
        y.claim(NEED, 1, 1, 100, true, 6);
        y.claim(WAGE, 2, 2, 30, true, 0);
        y.fund(0, 61);
        y.fund(3, 60);
        y.fund(4, 50);
        due("24: what is over does not go to cargo 0", y.back(0, 9, 1, 0, 1), 0);
        due("24: but to cargo 1", y.back(0, 9, 1, 1, 1), 19);
        due("24: cargo 2", y.back(0, 9, 1, 2, 1), 12);
        LastLent z = new LastLent();
        tell(z, 0, "rides need ship cargo;ahead wage need;costs 5;", 3);
        z.claim(NEED, 1, 1, 100, true, 1);
        z.claim(WAGE, 2, 2, 30, true, 0);
        z.claim(ROPE, 2, 9, 200, true, 0);
        z.fund(0, 235);
        z.fund(2, 90);
        // Straight, the ship pays wage and rope 230 and need nothing; cargo 0 pays 90 and asks of an empty ship.
        due("24: cargo 0 asks 90", z.back(0, 9, 0, 0, 0), 90);
        due("24: of an empty ship", z.back(0, 9, 0, 0, 1), 0);
        // On day 5 the rope does not live; straight, the ship pays 130 and 100 are left.
        due("24: cargo 0 asks nothing", z.back(0, 5, 0, 0, 0), 0);
        z.fund(0, 125);
        // The ship pays 30 and 90, cargo 0 the last 10.
        due("24: cargo 0 asks 10", z.back(0, 5, 0, 0, 0), 10);
        refusedByLandDayWay("24: back", x.back(4, 0, 0, 0, 0), x.back(0, 1000, 0, 0, 0), x.back(0, 0, 2, 0, 0),
            x.back(-1, -1, -1, 0, 0));
        due("24: back(0, 1000, 0, 3, 0)", x.back(0, 1000, 0, 3, 0), UNKNOWN);
        due("24: back(0, 0, 0, -1, 2)", x.back(0, 0, 0, -1, 2), UNKNOWN);
        due("24: back(0, 0, 0, 0, 2)", x.back(0, 0, 0, 0, 2), OUTSIDE);
        due("24: back(0, 0, 0, 0, -1)", x.back(0, 0, 0, 0, -1), OUTSIDE);
    }

    private static void wake() {
        LastLent x = new LastLent();
        tell(x, 0, "sale;", 1);
        x.claim(WAGE, 1, 5, 100, true, 0);
        x.fund(0, 70);
        due("25: asleep", x.paid(0, 9, 0, 0), 0);
        due("25: asked on the day", x.wake(0, 9, 0, 0, 9), 70);
        due("25: asked earlier", x.wake(0, 9, 1, 0, 0), 70);
        due("25: asked later", x.wake(0, 9, 0, 0, 10), 0);
        due("25: nothing changed", x.told(0, 6), NONE);
        x.ask(0, 1);
        due("25: asked anew, too late", x.wake(0, 9, 0, 0, 10), 0);
        refusedByLandDayWay("25: wake", x.wake(4, 0, 0, 0, 0), x.wake(0, 1000, 0, 0, 0), x.wake(0, 0, 2, 0, 0),
            x.wake(-1, -1, -1, 0, 0));
        due("25: wake(0, 0, 0, 1, 1000)", x.wake(0, 0, 0, 1, 1000), UNKNOWN);
        due("25: wake(0, 0, 0, 0, 1000)", x.wake(0, 0, 0, 0, 1000), OUTSIDE);
        due("25: wake(0, 0, 0, 0, NONE)", x.wake(0, 0, 0, 0, NONE), OUTSIDE);
    }

    private static void best() {
        LastLent x = new LastLent();
        tell(x, 0, "costs 50;", 1);
        tell(x, 2, "first wage;", 1);
        tell(x, 3, "first wage;", 1);
        x.claim(WAGE, 1, 5, 100, true, 0);
        x.claim(ROPE, 2, 5, 100, true, 0);
        x.fund(0, 100);
        due("26: the first of like ones", x.best(9, 0, 1, 0), 2);
        due("26: what it has there", x.best(9, 0, 1, 1), 100);
        due("26: land of holder 2", x.best(9, 1, 2, 0), 1);
        due("26: holder 2", x.best(9, 1, 2, 1), 50);
        due("26: who has nothing: land 0", x.best(9, 0, 5, 0), 0);
        due("26: who has nothing", x.best(9, 0, 5, 1), 0);
        due("26: best(1000, 0, 6, 0)", x.best(1000, 0, 6, 0), UNKNOWN);
        due("26: best(0, 0, NONE, 0)", x.best(0, 0, NONE, 0), UNKNOWN);
        due("26: best(1000, 0, 0, 0)", x.best(1000, 0, 0, 0), OUTSIDE);
        due("26: best(-1, 0, 0, 0)", x.best(-1, 0, 0, 0), OUTSIDE);
        due("26: best(0, 2, 0, 0)", x.best(0, 2, 0, 0), OUTSIDE);
        due("26: best(0, 0, 0, 2)", x.best(0, 0, 0, 2), OUTSIDE);
        due("26: best(0, 0, 0, -1)", x.best(0, 0, 0, -1), OUTSIDE);
    }

    private static void buy() {
        LastLent x = new LastLent();
        tell(x, 0, "first wage;", 1);
        x.claim(ROPE, 1, 5, 99, true, 0);
        x.claim(WAGE, 1, 5, 75, true, 0);
        x.claim(WAGE, 2, 5, 75, true, 0);
        x.fund(0, 200);
        due("27: 75 less 37, of two the least", x.buy(0, 9, 0, 3, 50, 0), 1);
        due("27: its gain", x.buy(0, 9, 0, 3, 50, 1), 38);
        due("27: holder 1 buys of another one", x.buy(0, 9, 0, 1, 50, 0), 2);
        due("27: rope: 50 less 0", x.buy(0, 9, 0, 3, 1, 1), 75);
        due("27: at 100 nothing is gained", x.buy(0, 9, 0, 3, 100, 0), NONE);
        due("27: at 100 nothing is gained", x.buy(0, 9, 0, 3, 100, 1), NONE);
        due("27: at 99: 75 less 74", x.buy(0, 9, 0, 3, 99, 1), 1);
        due("27: at 200", x.buy(0, 9, 0, 3, 200, 0), NONE);
        refusedByLandDayWay("27: buy", x.buy(4, 0, 0, 0, 1, 0), x.buy(0, 1000, 0, 0, 1, 0), x.buy(0, 0, 2, 0, 1, 0),
            x.buy(-1, -1, -1, 0, 0, 0));
        due("27: holder 6", x.buy(0, 1000, 0, 6, 0, 0), UNKNOWN);
        due("27: holder NONE", x.buy(0, 0, 0, NONE, 1, 0), UNKNOWN);
        due("27: at 0", x.buy(0, 0, 0, 0, 0, 0), OUTSIDE);
        due("27: at 201", x.buy(0, 0, 0, 0, 201, 0), OUTSIDE);
        due("27: what 2", x.buy(0, 0, 0, 0, 1, 2), OUTSIDE);
        due("27: what -1", x.buy(0, 0, 0, 0, 1, -1), OUTSIDE);
    }

    private static void clear() {
        LastLent x = new LastLent();
        tell(x, 0, "rides wage ship cargo;rides rope ship;ahead wage rope;", 3);
        x.claim(WAGE, 0, 5, 80, true, 1);
        x.claim(ROPE, 1, 5, 30, true, 0);
        x.claim(WAGE, 2, 5, 30, true, 1);
        x.fund(0, 120);
        x.fund(2, 100);
        // Straight, the ship pays both wages and 10 of the rope; marshalled, cargo 0 goes first and all are paid.
        due("28: straight, holder 1 clears a wage one for one", x.clear(0, 9, 0, 1, 0), NONE);
        due("28: and no gain", x.clear(0, 9, 0, 1, 1), NONE);
        due("28: marshalled, holder 0 has its wage alone", x.has(0, 9, 1, 0), 80);
        due("28: without the rope it has its cargo too", x.clear(0, 9, 1, 0, 0), 1);
        due("28: 180 less 80 less 30", x.clear(0, 9, 1, 0, 1), 70);
        due("28: nothing changed", x.count(3), 140);
        x.pass(1, 0);
        due("28: now the rope is its own", x.clear(0, 9, 1, 0, 0), 2);
        due("28: 210 less 110 less 30", x.clear(0, 9, 1, 0, 1), 70);
        x.pass(2, 0);
        due("28: of another one only", x.clear(0, 9, 1, 0, 0), NONE);
        refusedByLandDayWay("28: clear", x.clear(4, 0, 0, 0, 0), x.clear(0, 1000, 0, 0, 0), x.clear(0, 0, 2, 0, 0),
            x.clear(-1, -1, -1, 0, 0));
        due("28: holder 6", x.clear(0, 1000, 0, 6, 0), UNKNOWN);
        due("28: holder NONE", x.clear(0, 0, 0, NONE, 0), UNKNOWN);
        due("28: what 2", x.clear(0, 0, 0, 0, 2), OUTSIDE);
        due("28: what -1", x.clear(0, 0, 0, 0, -1), OUTSIDE);
    }

    private static void more() {
        LastLent x = new LastLent();
        tell(x, 0, "rides wage ship freight;ahead wage rope;leave wage;sale;", 4);
        tell(x, 1, "later;", 1);
        x.voyage(1, 10);
        x.claim(ROPE, 1, 5, 50, true, 0);
        x.ask(0, 5);
        x.fund(0, 60);
        x.fund(2, 7);
        due("29: the wage takes 30 of the ship: 30 * 90 - 5000", x.more(0, 10, 0, 1, 2, 20, 30, 40, 10), -2300);
        due("29: the wage, 30 * 90", x.more(0, 10, 0, 2, 2, 20, 30, 40, 10), 2700);
        due("29: the owner of cargoes, 7 * 90 - 700", x.more(0, 10, 0, 0, 2, 20, 30, 40, 10), -70);
        due("29: wise for holder 2", x.more(0, 10, 0, NONE, 2, 20, 30, 40, 10), 4);
        due("29: marshalled, freight pays the wage: 50 * 90 - 5000", x.more(0, 10, 1, 1, 2, 20, 30, 40, 10), -500);
        due("29: like as it was is not wise", x.more(0, 10, 1, NONE, 2, 20, 30, 40, 0), 4);
        due("29: lost for certain", x.more(0, 10, 1, 1, 2, 20, 30, 40, 100), -5000);
        x.claim(PILOT, 3, 12, 40, true, 0);
        // From day 11 on it is the new voyage's: pilot 40 and wage 30 of 60 are 34 and 25, and the one over.
        due("29: a claim of the new voyage", x.more(1, 10, 0, 3, 2, 20, 30, 40, 0), 3500);
        due("29: the wage of the new voyage", x.more(1, 10, 0, 2, 2, 20, 30, 40, 0), 2500);
        // On day 12 rope and pilot are 34 and 26 of 60; then the wage has 30, and they are 17 and 13 of 30.
        due("29: wise for two", x.more(1, 10, 0, NONE, 2, 20, 30, 40, 0), 12);
        due("29: a voyage from day 12 on", x.more(1, 11, 0, 3, 2, 20, 30, 40, 0), 3500);
        due("29: from day 13 on it is not", x.more(1, 12, 0, 3, 2, 20, 30, 40, 0), -1300);
        due("29: the last voyage ends later", x.more(0, 9, 0, 1, 2, 20, 30, 40, 10), NOT);
        due("29: e is d", x.more(0, 9, 0, 1, 2, 9, 30, 40, 10), OUTSIDE);
        due("29: a wage of 1", x.more(0, 10, 0, 2, 2, 20, 1, 40, 0), 100);
        due("29: a wage of 999 has 60 of the ship and 40", x.more(0, 10, 0, 2, 2, 20, 999, 40, 0), 10000);
        due("29: a freight of 9999", x.more(0, 10, 0, 2, 2, 20, 999, 9999, 0), 99900);
        due("29: e is 999", x.more(0, 998, 0, 5, 2, 999, 30, 40, 10), 0);
        due("29: e is 1000", x.more(0, 999, 0, 5, 2, 1000, 30, 40, 10), OUTSIDE);
        due("29: d is 1000", x.more(0, 1000, 0, 5, 2, 1001, 30, 40, 10), OUTSIDE);
        due("29: d is -1", x.more(0, -1, 0, 5, 2, 5, 30, 40, 10), OUTSIDE);
        due("29: way 2", x.more(0, 10, 2, 1, 2, 20, 30, 40, 10), OUTSIDE);
        due("29: wage 0", x.more(0, 10, 0, 1, 2, 20, 0, 40, 10), OUTSIDE);
        due("29: wage 1000", x.more(0, 10, 0, 1, 2, 20, 1000, 40, 10), OUTSIDE);
        due("29: freight -1", x.more(0, 10, 0, 1, 2, 20, 30, -1, 10), OUTSIDE);
        due("29: freight 10000", x.more(0, 10, 0, 1, 2, 20, 30, 10000, 10), OUTSIDE);
        due("29: freight HIGH", x.more(0, 10, 0, 1, 2, 20, 30, HIGH, 10), OUTSIDE);
        due("29: chance -1", x.more(0, 10, 0, 1, 2, 20, 30, 40, -1), OUTSIDE);
        due("29: chance 101", x.more(0, 10, 0, 1, 2, 20, 30, 40, 101), OUTSIDE);
        due("29: land 4, all else wrong", x.more(4, -1, 9, 1, 2, 0, 0, -1, -1), UNKNOWN);
        due("29: p -2", x.more(0, -1, 0, -2, 2, 20, 30, 40, 10), UNKNOWN);
        due("29: p 6", x.more(0, -1, 0, 6, 2, 20, 30, 40, 10), UNKNOWN);
        due("29: h NONE", x.more(0, -1, 0, 0, NONE, 20, 30, 40, 10), UNKNOWN);
        due("29: h 6", x.more(0, -1, 0, 0, 6, 20, 30, 40, 10), UNKNOWN);
        x.fund(1, 9999);
        due("29: freight above 9999", x.more(0, 10, 0, 5, 2, 20, 30, 1, 10), NOT);
        due("29: freight at 9999", x.more(0, 10, 0, 5, 2, 20, 30, 0, 10), 0);
        due("29: nothing changed, voyages", x.count(0), 1);
        due("29: nothing changed, claims", x.count(1), 2);
        due("29: nothing changed, sums", x.count(4), 10066);
        for (int c = 2; c < 14; c++) {
            due("29: but 14 claims there is room", x.more(0, 10, 0, 5, 2, 20, 30, 0, 10), 0);
            x.claim(ROPE, 1, 900, 1, true, 0);
        }
        due("29: 14 claims", x.more(0, 10, 0, 5, 2, 20, 30, 0, 10), NOT);
        LastLent y = new LastLent();
        for (int v = 0; v < 6; v++) {
            due("29: but 6 voyages there is room", y.more(0, 10, 0, 0, 2, 20, 30, 0, 10), 0);
            y.voyage(v, v);
        }
        LastLent z = new LastLent();
        tell(z, 0, "sale;", 1);
        z.fund(0, 9);
        due("29: the wage is asked for", z.more(0, 10, 0, 2, 2, 20, 30, 0, 0), 900);
        due("29: 6 voyages", y.more(0, 10, 0, 0, 2, 20, 30, 0, 10), NOT);
    }

    private static void hang() {
        LastLent x = new LastLent();
        tell(x, 0, "first wage;", 1);
        tell(x, 1, "leave wage;first wage;", 2);
        tell(x, 2, "within sooner;", 1);
        tell(x, 3, "sale;", 1);
        due("30: no claims", x.hang(0, 9, 0, NONE, 0), NONE);
        x.claim(ROPE, 1, 6, 40, true, 0);
        x.claim(WAGE, 0, 6, 50, false, 0);
        x.claim(PILOT, 2, 6, 40, true, 0);
        x.fund(0, 100);
        // land 0: wage 50, rope 25, pilot 25.
        due("30: without the wage", x.hang(0, 9, 0, 1, 0), 30);
        due("30: without the rope", x.hang(0, 9, 0, 0, 0), 15);
        due("30: most hangs on the wage", x.hang(0, 9, 0, NONE, 0), 1);
        // land 1: the wage needs leave and has none: rope 40, pilot 40; with it 25 and 25.
        due("30: with leave", x.hang(1, 9, 0, 1, 1), 30);
        due("30: leave of the rope", x.hang(1, 9, 0, 0, 1), 0);
        due("30: most by leave", x.hang(1, 9, 0, NONE, 1), 1);
        due("30: no leave is needed", x.hang(0, 9, 0, NONE, 1), NONE);
        // land 2, parts of 100 of 130 at first: 31, 39, 30; the wage a day later: 40, 20, 40.
        due("30: the wage a day later", x.hang(2, 9, 0, 1, 2), 19);
        // The rope a day later: wage 50, pilot 40; the pilot a day later: rope 40, wage 50.
        due("30: the rope a day later", x.hang(2, 9, 0, 0, 2), 21);
        due("30: one day and no more: of day 7 it lives on 7", x.hang(0, 7, 0, 1, 2), 0);
        due("30: the pilot a day later", x.hang(2, 9, 0, 2, 2), 20);
        due("30: most by a day", x.hang(2, 9, 0, NONE, 2), 0);
        due("30: a day more and it does not live yet", x.hang(0, 6, 0, 1, 2), 30);
        // land 3: all asleep.
        due("30: asked, alone", x.hang(3, 9, 0, 1, 3), 0);
        x.ask(0, 1);
        x.ask(2, 9);
        due("30: the wage asked, 80 become 61", x.hang(3, 9, 0, 1, 3), 19);
        due("30: asked anew", x.hang(3, 9, 0, 0, 3), 0);
        due("30: most by asking", x.hang(3, 9, 0, NONE, 3), 1);
        due("30: nothing changed", x.told(1, 6), NONE);
        due("30: nothing changed", x.told(1, 4), 0);
        due("30: nothing changed", x.told(1, 2), 6);
        due("30: nothing changed", x.count(3), 130);
        x.claim(WAGE, 3, 999, 50, true, 0);
        due("30: its day is 999", x.hang(0, 999, 0, 3, 2), 0);
        refusedByLandDayWay("30: hang", x.hang(4, 0, 0, 0, 0), x.hang(0, 1000, 0, 0, 0), x.hang(0, 0, 2, 0, 0),
            x.hang(-1, -1, -1, 0, 0));
        due("30: claim 4", x.hang(0, 1000, 0, 4, 0), UNKNOWN);
        due("30: claim -2", x.hang(0, 0, 0, -2, 9), UNKNOWN);
        due("30: what 4", x.hang(0, 0, 0, 0, 4), OUTSIDE);
        due("30: what -1 of NONE", x.hang(0, 0, 0, NONE, -1), OUTSIDE);
        LastLent y = new LastLent();
        y.claim(ROPE, 1, 6, 3, true, 0);
        y.claim(ROPE, 2, 6, 1, true, 0);
        y.claim(ROPE, 3, 6, 1, true, 0);
        y.fund(0, 3);
        due("30: 2, 1 become 3, 0: one more, one less", y.hang(0, 9, 0, 2, 0), 2);
        LastLent z = new LastLent();
        z.claim(ROPE, 1, 6, 10, true, 0);
        z.claim(ROPE, 2, 6, 10, true, 0);
        z.fund(0, 10);
        due("30: of like ones the least", z.hang(0, 9, 0, NONE, 0), 0);
        due("30: its hang", z.hang(0, 9, 0, 1, 0), 5);
    }

    private static void images() {
        LastLent x = new LastLent();
        due("31: keep(2)", x.keep(2), UNKNOWN);
        due("31: keep(-1)", x.keep(-1), UNKNOWN);
        due("32: goBack(2)", x.goBack(2), UNKNOWN);
        due("32: goBack(-1)", x.goBack(-1), UNKNOWN);
        due("32: goBack(1) not kept", x.goBack(1), NOT);
        due("31: keep(1), a new ship", x.keep(1), 1);
        due("32: goBack(0) not kept", x.goBack(0), NOT);
        x.voyage(1, 2);
        x.claim(HARM, 3, 4, 50, true, 5);
        x.ask(0, 6);
        x.fund(3, 70);
        x.owner(1, 4);
        due("31: keep(0)", x.keep(0), 1);
        x.voyage(5, 6);
        x.claim(DUES, 1, 1, 1, false, 0);
        x.ask(0, NONE);
        x.pass(0, 0);
        x.fund(3, 1);
        x.owner(1, 2);
        x.feed(2, 0L);
        x.law(0);
        tell(x, 0, "costs 9;", 1);
        x.feed(2, 0L);
        for (int time = 0; time < 2; time++) {
            due("32: goBack(0)", x.goBack(0), 1);
            due("32: voyages", x.count(0), 1);
            due("32: claims", x.count(1), 1);
            int[] due = {HARM, 3, 4, 50, 1, 5, 6, 0};
            for (int what = 0; what < 8; what++) {
                due("32: told(0, " + what + ")", x.told(0, what), due[what]);
            }
            due("32: a fund", x.fund(3, 8), 70);
            due("32: an owner", x.owner(1, 0), 4);
            due("32: laws stay", x.rule(0, 3), 9);
            due("32: the text stays", x.count(2), 2);
            due("32: an image is not changed by what comes later", x.claim(0, 0, 0, 1, true, 0), 1);
        }
        due("32: goBack(1)", x.goBack(1), 1);
        due("32: no voyages", x.count(0), 0);
        due("32: no claims", x.count(1), 0);
        due("32: no sums", x.count(4), 0);
        due("32: owner 0", x.owner(1, 0), 0);
        x.fund(0, 5);
        due("31: keep(1) anew", x.keep(1), 1);
        x.fund(0, 6);
        x.goBack(1);
        due("31: what was kept last", x.count(4), 5);
    }

    /** Fourteen claims, five funds, six voyages: the last places of all rows. */
    private static void fullShip() {
        LastLent x = new LastLent();
        tell(x, 0, "rides wage ship freight cargo;within sooner;", 2);
        for (int v = 0; v < 6; v++) {
            x.voyage(v, v);
        }
        for (int c = 0; c < 14; c++) {
            x.claim(WAGE, c % 6, 3, 999, true, 7);
        }
        for (int f = 0; f < 5; f++) {
            x.fund(f, 14);
        }
        for (int way = 0; way < 2; way++) {
            due("20: the last of fourteen", x.paid(0, 9, way, 13), 5);
            due("20: under a law that tells nothing", x.paid(1, 9, way, 13), 1);
            due("21: all funds are empty", x.left(0, 9, way, 4), 0);
            due("22: all have", x.has(0, 9, way, NONE), 70);
            due("22: holder 1 has three", x.has(0, 9, way, 1), 15);
            due("23: the first of like orders", x.order(0, 9, way, 4), 4);
            due("24: all ride on the ship", x.back(0, 9, way, 2, 0), 14);
            due("24: and nothing is left", x.back(0, 9, way, 2, 1), 0);
            due("25: asked or not", x.wake(0, 9, way, 13, 9), 5);
            due("26: most under land 0", x.best(9, way, 1, 0), 0);
            due("27: 5 less 9", x.buy(0, 9, way, 1, 1, 1), NONE);
            due("28: nothing is gained", x.clear(0, 9, way, 1, 1), NONE);
            due("29: no room", x.more(0, 9, way, 1, 1, 20, 1, 1, 0), NOT);
            // Of thirteen each has 1 of each fund, and the one that is over of it goes to claim 0.
            due("30: without the last", x.hang(0, 9, way, 13, 0), 5);
            due("30: on all hangs the same", x.hang(0, 9, way, NONE, 0), 0);
        }
        due("14: the last voyage", x.told(13, 7), 3);
        due("15: amounts", x.count(3), 14 * 999);
        due("19: one step", x.step(0, 9, 4, 13), 0);
        x.keep(1);
        x.goBack(1);
        due("32: fourteen", x.count(1), 14);
    }
}
