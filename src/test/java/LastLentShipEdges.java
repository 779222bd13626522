import java.nio.charset.StandardCharsets;

/** Promises 1 and 8 to 32: each sentence that names a boundary case has a test of its own. */
public final class LastLentShipEdges {
    private static final int NONE = -1, UNKNOWN = -1001, OUTSIDE = -1002, NOT = -1003, FULL = -1004;
    private static final int LOW = Integer.MIN_VALUE, HIGH = Integer.MAX_VALUE;
    private static final int WAGE = 0, ROPE = 1, PILOT = 2, SAVED = 3, NEED = 4, PLEDGE = 5, HARM = 6, DUES = 7;
    private static String sentence = "";
    private static int wrong = 0;
    private static int asked = 0;

    private static void due(String call, int got, int want) {
        asked++;
        if (got != want) {
            wrong++;
            System.out.println(sentence + ": " + call + " answered " + got + ", due is " + want);
        }
    }

    private static void tell(LastLent x, int land, String text) {
        byte[] bytes = text.getBytes(StandardCharsets.ISO_8859_1);
        for (int at = 0; at < bytes.length; at += 8) {
            int n = Math.min(8, bytes.length - at);
            long packed = 0;
            for (int i = 0; i < n; i++) {
                packed = packed << 8 | bytes[at + i] & 255;
            }
            x.feed(n, packed);
        }
        int clauses = text.length() - text.replace(";", "").length();
        due("law(" + land + ") of '" + text + "'", x.law(land), clauses);
    }

    /** A new object whose land 0 has a law. */
    private static LastLent under(String text) {
        LastLent x = new LastLent();
        tell(x, 0, text);
        return x;
    }

    private static void paidAre(LastLent x, int land, int d, int way, int... want) {
        for (int c = 0; c < want.length; c++) {
            due("paid(" + land + ", " + d + ", " + way + ", " + c + ")", x.paid(land, d, way, c), want[c]);
        }
    }

    private static void leftAre(LastLent x, int land, int d, int way, int... want) {
        for (int f = 0; f < want.length; f++) {
            due("left(" + land + ", " + d + ", " + way + ", " + f + ")", x.left(land, d, way, f), want[f]);
        }
    }

    private static void orderIs(LastLent x, int land, int d, int way, int... want) {
        for (int i = 0; i < want.length; i++) {
            due("order(" + land + ", " + d + ", " + way + ", " + i + ")", x.order(land, d, way, i), want[i]);
        }
    }

    public static void main(String[] args) {
        newObjects();
        theLastCall();
        voyageDays();
        voyageAfterVoyage();
        sixVoyages();
        claimEdges();
        fourteenClaims();
        askEdges();
        sumEdges();
        ownersAndHolders();
        theVoyageOfAClaim();
        counts();
        itsDayIsLater();
        itDies();
        aSale();
        leave();
        theFirstIsWhy();
        theLastDay();
        firstAndBehind();
        laterVoyages();
        ranksAndWithin();
        whatComesFirstDecides();
        steps();
        ridesOnCargoes();
        costsAsFarAsItGoes();
        noMoreThanIsLeft();
        whatIsOver();
        theGreatestSums();
        notWhollyPaid();
        stepByStep();
        whatIsLeft();
        whatAHolderHas();
        straightOrders();
        ofLikeOrdersTheFirst();
        theLastOfAllOrders();
        backAtItsEdges();
        backOverByOne();
        wakeDays();
        bestOfLikeLands();
        buyAtItsEdges();
        clearAtItsEdges();
        moreDays();
        moreChances();
        moreFreight();
        moreRoom();
        moreWakesAndDies();
        hangWithoutIt();
        hangByLeaveAndDay();
        hangByAsking();
        mostHangs();
        whatWouldBeKeepsTheRest();
        imagesOfOtherShips();
        images();
        System.out.println(asked + " answers, " + wrong + " not as due");
        if (wrong != 0) {
            System.exit(1);
        }
    }

    // ---- promise 1

    private static void newObjects() {
        sentence = "1: no VOYAGES, no CLAIMS; LAWS that tell nothing";
        LastLent x = new LastLent();
        for (int what = 0; what < 5; what++) {
            due("count(" + what + ")", x.count(what), 0);
        }
        due("told(0, 0)", x.told(0, 0), UNKNOWN);
        for (int land = 0; land < 4; land++) {
            for (int what = 0; what < 6; what++) {
                due("rule(" + land + ", " + what + ")", x.rule(land, what), 0);
                due("kind(" + land + ", 7, " + what + ")", x.kind(land, 7, what), what == 1 ? 1 : 0);
            }
        }
        for (int way = 0; way < 2; way++) {
            leftAre(x, 0, 0, way, 0, 0, 0, 0, 0);
            orderIs(x, 0, 0, way, 0, 1, 2, 3, 4);
            due("has(3, 999, way, NONE)", x.has(3, 999, way, NONE), 0);
            due("best(0, way, 5, 0)", x.best(0, way, 5, 0), 0);
            due("best(0, way, 5, 1)", x.best(0, way, 5, 1), 0);
            due("buy(0, 0, way, 0, 1, 0)", x.buy(0, 0, way, 0, 1, 0), NONE);
            due("buy(0, 0, way, 0, 1, 1)", x.buy(0, 0, way, 0, 1, 1), NONE);
            due("clear(0, 0, way, 0, 0)", x.clear(0, 0, way, 0, 0), NONE);
            due("clear(0, 0, way, 0, 1)", x.clear(0, 0, way, 0, 1), NONE);
            due("hang(0, 0, way, NONE, 0)", x.hang(0, 0, way, NONE, 0), NONE);
            due("back(0, 0, way, 2, 0)", x.back(0, 0, way, 2, 0), 0);
            due("back(0, 0, way, 2, 1)", x.back(0, 0, way, 2, 1), 0);
        }
        for (int f = 0; f < 5; f++) {
            due("SUM 0 at first", x.fund(f, 1), 0);
        }
        for (int cargo = 0; cargo < 3; cargo++) {
            due("OWNER 0 at first", x.owner(cargo, 1), 0);
        }
        sentence = "1: a new object beside one that is laden";
        tell(x, 0, "sale;");
        x.voyage(1, 2);
        x.claim(WAGE, 0, 0, 1, true, 0);
        x.keep(0);
        x.feed(1, 0L);
        LastLent y = new LastLent();
        due("goBack(0)", y.goBack(0), NOT);
        due("goBack(1)", y.goBack(1), NOT);
        due("rule(0, 2)", y.rule(0, 2), 0);
        due("fault()", y.fault(), NONE);
        due("owner(1, 0)", y.owner(1, 0), 0);
        for (int what = 0; what < 5; what++) {
            due("count(" + what + ")", y.count(what), 0);
        }
    }

    private static void theLastCall() {
        sentence = "1: an object is used for at most 512 calls";
        LastLent x = new LastLent();
        due("claim", x.claim(WAGE, 1, 5, 999, true, 0), 0);
        for (int call = 2; call < 512; call += 2) {
            due("fund as call " + call, x.fund(0, call), call == 2 ? 0 : call - 2);
            due("paid as call " + (call + 1), x.paid(0, 5, call / 2 % 2, 0), Math.min(call, 999));
        }
        due("has as call 512", x.has(0, 5, 1, 1), 510);
    }

    // ---- promise 8

    private static void voyageDays() {
        sentence = "8: VOYAGES go from a DAY to a DAY (0 to 999); OUTSIDE (DAYS; b below a)";
        due("voyage(0, 0)", new LastLent().voyage(0, 0), 0);
        due("voyage(0, 999)", new LastLent().voyage(0, 999), 0);
        due("voyage(999, 999)", new LastLent().voyage(999, 999), 0);
        due("voyage(5, 5)", new LastLent().voyage(5, 5), 0);
        LastLent x = new LastLent();
        int[][] outside = {{-1, 0}, {-1, -1}, {0, -1}, {0, 1000}, {999, 1000}, {1000, 1000}, {1000, 0}, {5, 4}, {999, 998},
            {1, 0}, {LOW, 0}, {0, LOW}, {HIGH, 0}, {0, HIGH}, {LOW, HIGH}, {HIGH, HIGH}, {LOW, LOW}};
        for (int[] days : outside) {
            due("voyage(" + days[0] + ", " + days[1] + ")", x.voyage(days[0], days[1]), OUTSIDE);
            due("count(0)", x.count(0), 0);
        }
        due("voyage(0, 0) is the first then", x.voyage(0, 0), 0);
    }

    private static void voyageAfterVoyage() {
        sentence = "8: each begins on a later DAY than the one before ends; NOT";
        LastLent x = new LastLent();
        due("voyage(5, 10)", x.voyage(5, 10), 0);
        for (int a : new int[] {0, 4, 5, 9, 10}) {
            due("voyage(" + a + ", 999)", x.voyage(a, 999), NOT);
            due("voyage(" + a + ", " + a + ")", x.voyage(a, a), NOT);
        }
        due("voyage(11, 11)", x.voyage(11, 11), 1);
        due("voyage(11, 12): the one before is the latest", x.voyage(11, 12), NOT);
        due("voyage(12, 999)", x.voyage(12, 999), 2);
        due("voyage(999, 999)", x.voyage(999, 999), NOT);
        due("count(0)", x.count(0), 3);
        sentence = "8: OUTSIDE comes ahead of NOT";
        due("voyage(999, 998)", x.voyage(999, 998), OUTSIDE);
        due("voyage(0, 1000)", x.voyage(0, 1000), OUTSIDE);
    }

    private static void sixVoyages() {
        sentence = "8: VOYAGES (6 at most); FULL";
        LastLent x = new LastLent();
        for (int v = 0; v < 6; v++) {
            due("voyage " + v, x.voyage(10 * v, 10 * v + 5), v);
        }
        due("a seventh", x.voyage(56, 57), FULL);
        due("a seventh on day 999", x.voyage(999, 999), FULL);
        sentence = "8: NOT comes ahead of FULL, OUTSIDE ahead of both";
        due("a seventh that begins as the sixth ends", x.voyage(55, 57), NOT);
        due("a seventh that ends ahead of its begin", x.voyage(56, 55), OUTSIDE);
        due("count(0)", x.count(0), 6);
        x.claim(WAGE, 0, 999, 1, true, 0);
        due("told(0, 7): no seventh", x.told(0, 7), 5);
    }

    // ---- promises 9 to 15

    private static void toldAre(LastLent x, int c, int... want) {
        for (int what = 0; what < want.length; what++) {
            due("told(" + c + ", " + what + ")", x.told(c, what), want[what]);
        }
    }

    private static void claimEdges() {
        sentence = "9, 14: CLAIMS are of a KIND (0 to 7), a HOLDER (0 to 5), a DAY (0 to 999), AMOUNT (1 .. 999), CARGOES (0 .. 7)";
        LastLent x = new LastLent();
        due("all least", x.claim(0, 0, 0, 1, false, 0), 0);
        due("all greatest", x.claim(7, 5, 999, 999, true, 7), 1);
        toldAre(x, 0, 0, 0, 0, 1, 0, 0, NONE, NONE);
        toldAre(x, 1, 7, 5, 999, 999, 1, 7, NONE, NONE);
        for (int set = 0; set < 8; set++) {
            x.claim(1, 1, 1, 1, true, set);
            due("told(.., 5)", x.told(2 + set, 5), set);
        }
        int[][] unknown = {{-1, 0, 0}, {8, 0, 0}, {0, -1, 0}, {0, 6, 0}, {0, 0, -1}, {0, 0, 8}, {0, 0, 9}, {0, 0, 15},
            {0, 0, 16}, {LOW, 0, 0}, {HIGH, 0, 0}, {0, LOW, 0}, {0, HIGH, 0}, {0, 0, LOW}, {0, 0, HIGH}, {0, 0, LOW | 7}};
        for (int[] a : unknown) {
            due("kind, holder, cargoes " + a[0] + ", " + a[1] + ", " + a[2], x.claim(a[0], a[1], 5, 5, true, a[2]), UNKNOWN);
            due("and an amount of 0", x.claim(a[0], a[1], 5, 0, true, a[2]), UNKNOWN);
            due("and a day of 1000", x.claim(a[0], a[1], 1000, 5, true, a[2]), UNKNOWN);
        }
        int[][] outside = {{-1, 5}, {1000, 5}, {5, 0}, {5, 1000}, {5, -1}, {LOW, 5}, {HIGH, 5}, {5, LOW}, {5, HIGH}};
        for (int[] a : outside) {
            due("day, amount " + a[0] + ", " + a[1], x.claim(0, 0, a[0], a[1], true, 0), OUTSIDE);
        }
        due("count(1)", x.count(1), 10);
        due("count(3)", x.count(3), 1008);
    }

    private static void fourteenClaims() {
        sentence = "9: CLAIMS (14 at most); FULL";
        LastLent x = new LastLent();
        for (int c = 0; c < 14; c++) {
            due("told(" + c + ", 0) ahead of it", x.told(c, 0), UNKNOWN);
            due("claim " + c, x.claim(c % 8, c % 6, c, 1 + c, c % 3 == 0, c % 8), c);
        }
        due("a fifteenth", x.claim(0, 0, 0, 1, true, 0), FULL);
        due("told(14, 0)", x.told(14, 0), UNKNOWN);
        sentence = "9: OUTSIDE comes ahead of FULL, UNKNOWN ahead of both";
        due("a fifteenth of day 1000", x.claim(0, 0, 1000, 1, true, 0), OUTSIDE);
        due("a fifteenth of 0", x.claim(0, 0, 0, 0, true, 0), OUTSIDE);
        due("a fifteenth of kind 8", x.claim(8, 0, 0, 0, true, 0), UNKNOWN);
        due("a fifteenth of cargoes 8", x.claim(0, 0, 1000, 1, true, 8), UNKNOWN);
        sentence = "9, 14: what is full is as it was";
        due("count(1)", x.count(1), 14);
        for (int c = 0; c < 14; c++) {
            toldAre(x, c, c % 8, c % 6, c, 1 + c, c % 3 == 0 ? 1 : 0, c % 8, NONE, NONE);
        }
    }

    private static void askEdges() {
        sentence = "10: ASKED for on a DAY (NONE: not): what it was";
        LastLent x = new LastLent();
        due("ask(0, 5) of no claim", x.ask(0, 5), UNKNOWN);
        x.claim(WAGE, 0, 50, 1, true, 0);
        x.claim(WAGE, 0, 50, 1, true, 0);
        due("ask(0, NONE) at first", x.ask(0, NONE), NONE);
        due("ask(0, 0)", x.ask(0, 0), NONE);
        due("ask(0, 999)", x.ask(0, 999), 0);
        for (int day : new int[] {-2, 1000, LOW, HIGH, UNKNOWN}) {
            due("ask(0, " + day + ")", x.ask(0, day), OUTSIDE);
        }
        due("told(0, 6)", x.told(0, 6), 999);
        due("ask(1, 7): each by itself", x.ask(1, 7), NONE);
        due("ask(0, NONE)", x.ask(0, NONE), 999);
        due("told(0, 6)", x.told(0, 6), NONE);
        for (int c : new int[] {-1, 2, 13, 14, LOW, HIGH}) {
            due("ask(" + c + ", 5)", x.ask(c, 5), UNKNOWN);
            due("ask(" + c + ", 1000)", x.ask(c, 1000), UNKNOWN);
        }
        due("told(1, 6)", x.told(1, 6), 7);
    }

    private static void sumEdges() {
        sentence = "11: FUNDS 0 to 4, each has a SUM (0 .. 9999): what it was";
        LastLent x = new LastLent();
        for (int f = 0; f < 5; f++) {
            due("fund(" + f + ", 9999)", x.fund(f, 9999), 0);
            for (int v : new int[] {-1, 10000, LOW, HIGH}) {
                due("fund(" + f + ", " + v + ")", x.fund(f, v), OUTSIDE);
            }
        }
        due("count(4) of all full", x.count(4), 49995);
        for (int f : new int[] {-1, 5, LOW, HIGH}) {
            due("fund(" + f + ", 1)", x.fund(f, 1), UNKNOWN);
            due("fund(" + f + ", 10000)", x.fund(f, 10000), UNKNOWN);
        }
        due("count(4)", x.count(4), 49995);
        for (int f = 0; f < 5; f++) {
            due("fund(" + f + ", 0)", x.fund(f, 0), 9999);
        }
        due("count(4) of all empty", x.count(4), 0);
    }

    private static void ownersAndHolders() {
        sentence = "12: OWNER of a CARGO (0 .. 2) becomes a HOLDER (0 to 5): who it was";
        LastLent x = new LastLent();
        for (int cargo = 0; cargo < 3; cargo++) {
            due("owner(" + cargo + ", 5)", x.owner(cargo, 5), 0);
        }
        for (int bad : new int[] {-1, LOW, HIGH}) {
            due("owner(" + bad + ", 1)", x.owner(bad, 1), UNKNOWN);
            due("owner(1, " + bad + ")", x.owner(1, bad), UNKNOWN);
        }
        due("owner(3, 1)", x.owner(3, 1), UNKNOWN);
        due("owner(1, 6)", x.owner(1, 6), UNKNOWN);
        for (int cargo = 0; cargo < 3; cargo++) {
            due("owner(" + cargo + ", 0)", x.owner(cargo, 0), 5);
        }
        sentence = "13: a CLAIM goes to another HOLDER: whose it was";
        due("pass(0, 0) of no claim", x.pass(0, 0), UNKNOWN);
        x.claim(WAGE, 5, 0, 1, true, 0);
        x.claim(WAGE, 0, 0, 1, true, 0);
        due("pass(0, 0)", x.pass(0, 0), 5);
        due("pass(1, 5)", x.pass(1, 5), 0);
        due("pass(1, 5) to itself", x.pass(1, 5), 5);
        for (int bad : new int[] {-1, LOW, HIGH}) {
            due("pass(" + bad + ", 1)", x.pass(bad, 1), UNKNOWN);
            due("pass(1, " + bad + ")", x.pass(1, bad), UNKNOWN);
        }
        due("pass(2, 1)", x.pass(2, 1), UNKNOWN);
        due("pass(1, 6)", x.pass(1, 6), UNKNOWN);
        due("told(0, 1)", x.told(0, 1), 0);
        due("told(1, 1)", x.told(1, 1), 5);
    }

    private static void theVoyageOfAClaim() {
        sentence = "14: VOYAGE: the latest that began on its DAY or earlier (NONE: none did)";
        LastLent x = new LastLent();
        int[] days = {0, 9, 10, 20, 21, 29, 30, 40, 41, 999};
        for (int day : days) {
            x.claim(WAGE, 0, day, 1, true, 0);
            due("told(.., 7) without voyages", x.told(x.count(1) - 1, 7), NONE);
        }
        x.voyage(10, 20);
        int[] one = {NONE, NONE, 0, 0, 0, 0, 0, 0, 0, 0};
        x.voyage(30, 40);
        int[] two = {NONE, NONE, 0, 0, 0, 0, 1, 1, 1, 1};
        for (int c = 0; c < days.length; c++) {
            due("of day " + days[c], x.told(c, 7), two[c]);
        }
        x.voyage(999, 999);
        due("of day 999", x.told(9, 7), 2);
        LastLent y = new LastLent();
        y.voyage(10, 20);
        for (int c = 0; c < days.length; c++) {
            y.claim(WAGE, 0, days[c], 1, true, 0);
            due("of day " + days[c] + " by one voyage", y.told(c, 7), one[c]);
        }
        LastLent z = new LastLent();
        z.voyage(0, 0);
        z.claim(WAGE, 0, 0, 1, true, 0);
        due("of day 0", z.told(0, 7), 0);
        for (int what : new int[] {-1, 8, LOW, HIGH}) {
            due("told(0, " + what + ")", z.told(0, what), OUTSIDE);
            due("told(1, " + what + ")", z.told(1, what), UNKNOWN);
            due("told(NONE, " + what + ")", z.told(NONE, what), UNKNOWN);
        }
    }

    private static void counts() {
        sentence = "15: how many";
        LastLent x = new LastLent();
        for (int v = 0; v < 6; v++) {
            x.voyage(v, v);
        }
        for (int c = 0; c < 14; c++) {
            x.claim(WAGE, 0, 0, 999, true, 0);
        }
        for (int n = 0; n < 30; n++) {
            x.feed(8, 0L);
        }
        for (int f = 0; f < 5; f++) {
            x.fund(f, 9999);
        }
        int[] most = {6, 14, 240, 13986, 49995};
        for (int what = 0; what < 5; what++) {
            due("count(" + what + ") of a full one", x.count(what), most[what]);
        }
        for (int what : new int[] {-1, 5, LOW, HIGH}) {
            due("count(" + what + ")", x.count(what), OUTSIDE);
        }
    }

    // ---- promises 16 and 17

    private static void itsDayIsLater() {
        sentence = "16: 1 its DAY is later than d";
        LastLent x = new LastLent();
        x.claim(WAGE, 0, 0, 1, true, 0);
        x.claim(WAGE, 0, 500, 1, true, 0);
        x.claim(WAGE, 0, 999, 1, true, 0);
        due("of day 0 on 0", x.lives(0, 0, 0), 0);
        due("of day 0 on 999", x.lives(0, 999, 0), 0);
        due("of day 500 on 499", x.lives(0, 499, 1), 1);
        due("of day 500 on 500", x.lives(0, 500, 1), 0);
        due("of day 500 on 501", x.lives(0, 501, 1), 0);
        due("of day 999 on 998", x.lives(0, 998, 2), 1);
        due("of day 999 on 999", x.lives(0, 999, 2), 0);
        for (int d : new int[] {-1, 1000, LOW, HIGH}) {
            due("on " + d, x.lives(0, d, 0), OUTSIDE);
            due("of claim 3 on " + d, x.lives(0, d, 3), UNKNOWN);
            due("in land 4 on " + d, x.lives(4, d, 0), UNKNOWN);
            due("in land " + d, x.lives(d == 1000 ? 5 : d, 0, 0), UNKNOWN);
        }
    }

    private static void itDies() {
        sentence = "16: 2 its KIND 'dies' N, its DAY and N is earlier than d, and not ASKED on its DAY and N or earlier";
        LastLent x = under("dies rope 10;dies pilot 1;dies saved 999;");
        x.claim(ROPE, 0, 5, 1, true, 0);
        x.claim(PILOT, 0, 5, 1, true, 0);
        x.claim(SAVED, 0, 0, 1, true, 0);
        x.claim(WAGE, 0, 0, 1, true, 0);
        x.claim(ROPE, 0, 999, 1, true, 0);
        x.claim(ROPE, 0, 988, 1, true, 0);
        due("ten days on the last", x.lives(0, 15, 0), 0);
        due("ten days on the next", x.lives(0, 16, 0), 2);
        due("ten days on 999", x.lives(0, 999, 0), 2);
        due("one day on the last", x.lives(0, 6, 1), 0);
        due("one day on the next", x.lives(0, 7, 1), 2);
        due("999 days of day 0", x.lives(0, 999, 2), 0);
        due("a kind that does not die", x.lives(0, 999, 3), 0);
        due("of day 999", x.lives(0, 999, 4), 0);
        due("of day 988 on 998", x.lives(0, 998, 5), 0);
        due("of day 988 on 999", x.lives(0, 999, 5), 2);
        due("in a land where it does not die", x.lives(1, 999, 0), 0);
        x.ask(0, 15);
        due("asked on the last, on the next", x.lives(0, 16, 0), 0);
        due("asked on the last, on 999", x.lives(0, 999, 0), 0);
        x.ask(0, 16);
        due("asked a day too late", x.lives(0, 16, 0), 2);
        due("asked a day too late, on 999", x.lives(0, 999, 0), 2);
        due("asked a day too late, on the last", x.lives(0, 15, 0), 0);
        x.ask(0, 0);
        due("asked ahead of its day", x.lives(0, 16, 0), 0);
        x.ask(0, NONE);
        due("asked no more", x.lives(0, 16, 0), 2);
    }

    private static void aSale() {
        sentence = "16: 3 there is 'sale', and it was not ASKED on d or earlier";
        LastLent x = under("sale;");
        x.claim(WAGE, 0, 0, 1, true, 0);
        due("not asked", x.lives(0, 500, 0), 3);
        due("not asked, without sale", x.lives(1, 500, 0), 0);
        x.ask(0, 500);
        due("asked on the next day", x.lives(0, 499, 0), 3);
        due("asked on the day", x.lives(0, 500, 0), 0);
        due("asked on the day before", x.lives(0, 501, 0), 0);
        x.ask(0, 0);
        due("asked on 0, on 0", x.lives(0, 0, 0), 0);
        x.ask(0, 999);
        due("asked on 999, on 998", x.lives(0, 998, 0), 3);
        due("asked on 999, on 999", x.lives(0, 999, 0), 0);
    }

    private static void leave() {
        sentence = "16: 4 its KIND needs LEAVE, it has none";
        LastLent x = under("leave wage;leave dues;");
        x.claim(WAGE, 0, 0, 1, false, 0);
        x.claim(WAGE, 0, 0, 1, true, 0);
        x.claim(ROPE, 0, 0, 1, false, 0);
        x.claim(DUES, 0, 0, 1, false, 0);
        int[] want = {4, 0, 0, 4};
        for (int c = 0; c < 4; c++) {
            due("claim " + c, x.lives(0, 5, c), want[c]);
            due("claim " + c + " in another land", x.lives(1, 5, c), 0);
        }
        for (int c = 4; c < 14; c++) {
            x.claim(WAGE, 0, 0, 1, c != 12, 0);
        }
        due("the last but one of fourteen", x.lives(0, 5, 12), 4);
        due("the last of fourteen", x.lives(0, 5, 13), 0);
    }

    private static void theFirstIsWhy() {
        sentence = "16: (the first is WHY)";
        LastLent x = under("dies rope 5;sale;leave rope;");
        x.claim(ROPE, 0, 10, 1, false, 0);
        due("1, 3, 4", x.lives(0, 9, 0), 1);
        due("3, 4", x.lives(0, 15, 0), 3);
        due("2, 3, 4", x.lives(0, 16, 0), 2);
        x.ask(0, 16);
        due("2, 4", x.lives(0, 16, 0), 2);
        x.ask(0, 15);
        due("1, 3, 4, asked for", x.lives(0, 9, 0), 1);
        due("3, 4, asked for tomorrow", x.lives(0, 14, 0), 3);
        due("4", x.lives(0, 15, 0), 4);
        due("4, later", x.lives(0, 16, 0), 4);
    }

    private static void theLastDay() {
        sentence = "17: the last DAY on which a CLAIM LIVES, as it is ASKED (999, if it does then; NONE: on none)";
        LastLent x = under("dies rope 10;");
        tell(x, 1, "sale;");
        tell(x, 2, "dies rope 10;sale;");
        tell(x, 3, "leave rope;");
        x.claim(ROPE, 0, 5, 1, false, 0);
        x.claim(ROPE, 0, 988, 1, true, 0);
        x.claim(ROPE, 0, 989, 1, true, 0);
        x.claim(ROPE, 0, 990, 1, true, 0);
        x.claim(WAGE, 0, 999, 1, false, 0);
        due("it dies", x.last(0, 0), 15);
        due("it dies on 998", x.last(0, 1), 998);
        due("it dies on 999", x.last(0, 2), 999);
        due("it would die on 1000", x.last(0, 3), 999);
        due("of day 999", x.last(0, 4), 999);
        due("asleep under sale", x.last(1, 0), NONE);
        due("asleep under sale, it dies", x.last(2, 0), NONE);
        due("without leave", x.last(3, 0), NONE);
        due("with leave", x.last(3, 1), 999);
        due("no leave is needed", x.last(3, 4), 999);
        int[][] byAsking = {{0, 999, 999, 999}, {5, 999, 999, 999}, {15, 999, 999, 999}, {16, 15, 999, NONE},
            {999, 15, 999, NONE}};
        for (int[] row : byAsking) {
            x.ask(0, row[0]);
            for (int land = 0; land < 3; land++) {
                due("asked on " + row[0] + " in land " + land, x.last(land, 0), row[1 + land]);
            }
            due("asked on " + row[0] + " without leave", x.last(3, 0), NONE);
        }
        for (int bad : new int[] {-1, LOW, HIGH}) {
            due("last(" + bad + ", 0)", x.last(bad, 0), UNKNOWN);
            due("last(0, " + bad + ")", x.last(0, bad), UNKNOWN);
        }
        due("last(4, 0)", x.last(4, 0), UNKNOWN);
        due("last(0, 5)", x.last(0, 5), UNKNOWN);
    }

    // ---- promise 18

    private static void both(LastLent x, int land, int c, int e, int want, String why) {
        due(why, x.ahead(land, c, e), want);
        due(why + ", the other way round", x.ahead(land, e, c), -want);
    }

    private static void firstAndBehind() {
        sentence = "18: of KINDS 'first' of one that is not; of one that is not 'behind' of one that is";
        LastLent x = under("first dues;first harm;behind wage;behind rope;");
        for (int k = 0; k < 8; k++) {
            x.claim(k, 0, 5, 1, true, 0);
        }
        both(x, 0, DUES, PILOT, 1, "first and neither");
        both(x, 0, PILOT, WAGE, 1, "neither and behind");
        both(x, 0, DUES, WAGE, 1, "first and behind");
        both(x, 0, DUES, HARM, 0, "two first ones");
        both(x, 0, WAGE, ROPE, 0, "two behind");
        both(x, 0, PILOT, SAVED, 0, "two that are neither");
        both(x, 1, DUES, WAGE, 0, "in a land that tells nothing");
        for (int k = 0; k < 8; k++) {
            due("of itself", x.ahead(0, k, k), 0);
        }
        for (int bad : new int[] {-1, 8, LOW, HIGH}) {
            due("ahead(0, " + bad + ", 0)", x.ahead(0, bad, 0), UNKNOWN);
            due("ahead(0, 0, " + bad + ")", x.ahead(0, 0, bad), UNKNOWN);
            due("ahead(" + bad + ", 0, 0)", x.ahead(bad, 0, 0), UNKNOWN);
        }
        due("ahead(4, 0, 0)", x.ahead(4, 0, 0), UNKNOWN);
    }

    private static void laterVoyages() {
        sentence = "18: 'later': of the later VOYAGE (one of none is behind all others)";
        LastLent x = under("later;");
        x.voyage(10, 20);
        x.voyage(21, 30);
        int[] days = {0, 9, 10, 20, 21, 999};
        for (int day : days) {
            x.claim(WAGE, 0, day, 1, true, 0);
        }
        both(x, 0, 0, 1, 0, "two of none");
        both(x, 0, 2, 1, 1, "the first voyage and none");
        both(x, 0, 5, 0, 1, "the last voyage and none");
        both(x, 0, 2, 3, 0, "two of one voyage");
        both(x, 0, 4, 3, 1, "of days side by side");
        both(x, 0, 4, 5, 0, "behind the last one's end");
        both(x, 1, 5, 0, 0, "without 'later'");
        sentence = "18: 'later' (and neither KIND is first or behind)";
        LastLent y = under("later;first dues;first harm;behind wage;behind rope;ahead harm dues;ahead rope wage;");
        y.voyage(10, 20);
        int oldDues = y.claim(DUES, 0, 5, 1, true, 0);
        int newDues = y.claim(DUES, 0, 15, 1, true, 0);
        int oldHarm = y.claim(HARM, 0, 5, 1, true, 0);
        int newWage = y.claim(WAGE, 0, 15, 1, true, 0);
        int oldWage = y.claim(WAGE, 0, 5, 1, true, 0);
        int oldRope = y.claim(ROPE, 0, 5, 1, true, 0);
        int newNeed = y.claim(NEED, 0, 15, 1, true, 0);
        int oldNeed = y.claim(NEED, 0, 5, 1, true, 0);
        both(y, 0, oldDues, newDues, 0, "two first ones of two voyages");
        both(y, 0, oldHarm, newDues, 1, "two first ones by rank");
        both(y, 0, newWage, oldWage, 0, "two behind of two voyages");
        both(y, 0, oldRope, newWage, 1, "two behind by rank");
        both(y, 0, oldDues, newNeed, 1, "a first one of none and one of a voyage");
        both(y, 0, oldNeed, newWage, 1, "one of none and one behind of a voyage");
        both(y, 0, newNeed, oldNeed, 1, "neither is first or behind");
        LastLent z = under("later;");
        for (int v = 0; v < 6; v++) {
            z.voyage(v + 1, v + 1);
        }
        for (int v = 0; v < 7; v++) {
            z.claim(v % 2, 0, v, 1, true, 0);
        }
        for (int v = 1; v < 7; v++) {
            both(z, 0, v, v - 1, 1, "each of six and none");
            both(z, 0, v, 0, 1, "each of six and the one of none");
        }
    }

    private static void ranksAndWithin() {
        sentence = "18: of the lesser RANK";
        LastLent x = under("ahead need wage;ahead wage dues;");
        x.claim(WAGE, 0, 5, 1, true, 0);
        x.claim(DUES, 0, 5, 1, true, 0);
        x.claim(NEED, 0, 5, 1, true, 0);
        x.claim(HARM, 0, 5, 1, true, 0);
        both(x, 0, 2, 0, 1, "rank 0 and 1");
        both(x, 0, 0, 1, 1, "rank 1 and 2");
        both(x, 0, 2, 3, 0, "two of rank 0 that are not told of");
        both(x, 0, 3, 1, 1, "one not told of has rank 0");
        sentence = "18: by 'within' that of the later DAY, of the sooner one, (parts) neither";
        tell(x, 1, "within later;");
        tell(x, 2, "within sooner;");
        tell(x, 3, "within parts;");
        int a = x.claim(PILOT, 0, 0, 1, true, 0);
        int b = x.claim(SAVED, 0, 1, 1, true, 0);
        int c = x.claim(PILOT, 0, 998, 1, true, 0);
        int d = x.claim(PILOT, 0, 999, 1, true, 0);
        int e = x.claim(ROPE, 0, 999, 1, true, 0);
        int[] want = {0, 1, -1, 0};
        for (int land = 0; land < 4; land++) {
            both(x, land, b, a, want[land], "days 1 and 0 in land " + land);
            both(x, land, d, c, want[land], "days 999 and 998 in land " + land);
            both(x, land, d, a, want[land], "days 999 and 0 in land " + land);
            both(x, land, d, e, 0, "one day in land " + land);
        }
    }

    private static void whatComesFirstDecides() {
        sentence = "18: this in order: what comes first decides";
        LastLent x = under("first dues;behind harm;later;ahead wage rope;within later;");
        tell(x, 1, "first dues;behind harm;later;ahead wage rope;within sooner;");
        x.voyage(10, 20);
        x.voyage(999, 999);
        int dues = x.claim(DUES, 0, 0, 1, true, 0);
        int harm = x.claim(HARM, 0, 999, 1, true, 0);
        int oldWage = x.claim(WAGE, 0, 0, 1, true, 0);
        int midWage = x.claim(WAGE, 0, 10, 1, true, 0);
        int midRope = x.claim(ROPE, 0, 998, 1, true, 0);
        int newRope = x.claim(ROPE, 0, 999, 1, true, 0);
        int lateWage = x.claim(WAGE, 0, 998, 1, true, 0);
        both(x, 0, dues, newRope, 1, "first ahead of the voyage and the day");
        both(x, 0, oldWage, harm, 1, "behind ahead of the voyage and the day");
        both(x, 0, newRope, midWage, 1, "the voyage ahead of the rank");
        both(x, 0, midWage, midRope, 1, "the rank ahead of the later day");
        both(x, 1, lateWage, midRope, 1, "the rank of one day");
        both(x, 1, newRope, oldWage, 1, "the voyage ahead of the sooner day");
        both(x, 0, lateWage, midWage, 1, "then the later day");
        both(x, 1, midWage, lateWage, 1, "then the sooner day");
        sentence = "18: the least that comes first decides ahead of the most that comes behind";
        LastLent y = under("later;ahead wage rope;ahead rope pilot;ahead pilot saved;ahead saved need;ahead need pledge;"
            + "within later;");
        tell(y, 1, "ahead wage rope;within later;");
        tell(y, 2, "ahead wage rope;within sooner;");
        tell(y, 3, "later;first pledge;behind wage;ahead wage rope;ahead rope pilot;ahead pilot saved;ahead saved need;"
            + "ahead need pledge;");
        for (int v = 0; v < 6; v++) {
            y.voyage(100 * v + 100, 100 * v + 100);
        }
        int early = y.claim(WAGE, 0, 0, 1, true, 0);
        int wage = y.claim(WAGE, 0, 199, 1, true, 0);
        int pledge = y.claim(PLEDGE, 0, 200, 1, true, 0);
        int late = y.claim(ROPE, 0, 999, 1, true, 0);
        int lateWage2 = y.claim(WAGE, 0, 999, 1, true, 0);
        int earlyRope = y.claim(ROPE, 0, 0, 1, true, 0);
        int earlyPledge = y.claim(PLEDGE, 0, 0, 1, true, 0);
        both(y, 0, pledge, wage, 1, "one voyage later, five ranks behind");
        both(y, 1, early, late, 1, "one rank less, 999 days sooner under 'within later'");
        both(y, 2, lateWage2, earlyRope, 1, "one rank less, 999 days later under 'within sooner'");
        both(y, 3, earlyPledge, late, 1, "first, of no voyage, four ranks behind");
        both(y, 3, earlyRope, lateWage2, 1, "not behind, of no voyage, one rank behind");
        both(y, 0, late, earlyPledge, 1, "of the last voyage and of none");
    }

    // ---- promise 19

    private static void steps() {
        sentence = "19: STEP (from 0 on) among those that LIVE on d and RIDE on a FUND; NONE: it is not one of these";
        LastLent x = under("within later;");
        tell(x, 1, "within sooner;");
        tell(x, 3, "rides wage freight;");
        for (int c = 0; c < 14; c++) {
            x.claim(WAGE, 0, 10 + c, 1, true, 0);
        }
        for (int c = 0; c < 14; c++) {
            due("fourteen steps, the latest first", x.step(0, 999, 0, c), 13 - c);
            due("fourteen steps, the soonest first", x.step(1, 999, 0, c), c);
            due("one step", x.step(2, 999, 0, c), 0);
            due("on the last day but one, the latest first", x.step(0, 22, 0, c), c == 13 ? NONE : 12 - c);
            due("not on the ship", x.step(3, 999, 0, c), NONE);
            due("not on freight", x.step(0, 999, 1, c), NONE);
            due("on freight", x.step(3, 999, 1, c), 0);
            due("ahead of all their days", x.step(0, 9, 0, c), NONE);
        }
        for (int bad : new int[] {-1, LOW, HIGH}) {
            due("step(" + bad + ", ..)", x.step(bad, 1000, 0, 0), UNKNOWN);
            due("step of fund " + bad, x.step(0, 1000, bad, 0), UNKNOWN);
            due("step of claim " + bad, x.step(0, 1000, 0, bad), UNKNOWN);
            due("step on day " + bad, x.step(0, bad, 0, 0), OUTSIDE);
        }
        due("step(4, ..)", x.step(4, 0, 0, 0), UNKNOWN);
        due("step of fund 5", x.step(0, 0, 5, 0), UNKNOWN);
        due("step of claim 14", x.step(0, 0, 0, 14), UNKNOWN);
        due("step on day 1000", x.step(0, 1000, 0, 0), OUTSIDE);
        due("step on day 999", x.step(0, 999, 0, 13), 0);
        due("step on day 0", x.step(0, 0, 0, 13), NONE);
        sentence = "19: steps are counted by those that LIVE and RIDE alone, paid or not";
        LastLent y = under("ahead wage rope;ahead rope pilot;rides rope freight;dies wage 5;");
        y.claim(WAGE, 0, 10, 1, true, 0);
        y.claim(ROPE, 0, 10, 1, true, 0);
        y.claim(PILOT, 0, 10, 1, true, 0);
        due("behind a wage, no rope", y.step(0, 15, 0, 2), 1);
        due("behind a wage that is dead", y.step(0, 16, 0, 2), 0);
        due("the dead one", y.step(0, 16, 0, 0), NONE);
        y.fund(0, 1);
        due("behind a wage that is paid", y.step(0, 15, 0, 2), 1);
    }

    private static void ridesOnCargoes() {
        sentence = "19, 20: 'cargo': on those of its CARGOES";
        LastLent x = under("rides harm cargo;rides saved ship cargo;");
        for (int set = 0; set < 8; set++) {
            x.claim(HARM, 0, 5, 10, true, set);
        }
        x.claim(SAVED, 0, 5, 10, true, 0);
        x.claim(WAGE, 0, 5, 10, true, 7);
        for (int set = 0; set < 8; set++) {
            due("harm on the ship", x.step(0, 5, 0, set), NONE);
            due("harm on freight", x.step(0, 5, 1, set), NONE);
            for (int cargo = 0; cargo < 3; cargo++) {
                due("harm of " + set + " on cargo " + cargo, x.step(0, 5, 2 + cargo, set), (set >> cargo & 1) == 1 ? 0 : NONE);
            }
        }
        due("saved of no cargoes on the ship", x.step(0, 5, 0, 8), 0);
        due("saved of no cargoes on cargo 0", x.step(0, 5, 2, 8), NONE);
        due("wage rides on the ship alone", x.step(0, 5, 2, 9), NONE);
        due("wage on the ship", x.step(0, 5, 0, 9), 0);
        for (int f = 0; f < 5; f++) {
            x.fund(f, 9999);
        }
        for (int way = 0; way < 2; way++) {
            paidAre(x, 0, 5, way, 0, 10, 10, 10, 10, 10, 10, 10, 10, 10);
        }
    }

    // ---- promises 20 and 21

    private static void costsAsFarAsItGoes() {
        sentence = "20, 21: first 'costs' are taken from SHIP (as far as it goes)";
        LastLent x = under("costs 20;rides rope freight;");
        tell(x, 1, "costs 999;");
        x.claim(WAGE, 0, 5, 50, true, 0);
        x.claim(ROPE, 0, 5, 50, true, 0);
        x.fund(1, 7);
        int[][] rows = {{0, 0, 0}, {1, 0, 0}, {19, 0, 0}, {20, 0, 0}, {21, 1, 0}, {69, 49, 0}, {70, 50, 0}, {71, 50, 1}};
        for (int[] row : rows) {
            x.fund(0, row[0]);
            for (int way = 0; way < 2; way++) {
                due("of a ship of " + row[0], x.paid(0, 9, way, 0), row[1]);
                due("left of a ship of " + row[0], x.left(0, 9, way, 0), row[2]);
                due("freight bears no costs", x.paid(0, 9, way, 1), 7);
            }
            due("left on a day on which none lives", x.left(0, 0, 0, 0), Math.max(0, row[0] - 20));
        }
        for (int sum : new int[] {998, 999, 1000}) {
            x.fund(0, sum);
            due("costs of 999 of " + sum, x.left(1, 0, 0, 0), Math.max(0, sum - 999));
        }
        due("the sum itself is as it was", x.fund(0, 0), 1000);
    }

    private static LastLent three(int a, int b, int c) {
        LastLent x = new LastLent();
        x.claim(WAGE, 0, 5, a, true, 0);
        x.claim(ROPE, 1, 5, b, true, 0);
        x.claim(PILOT, 2, 5, c, true, 0);
        return x;
    }

    private static void noMoreThanIsLeft() {
        sentence = "20: if what they still want in a STEP is no more than what is left of the FUND, each has it";
        LastLent x = three(10, 20, 40);
        x.fund(0, 71);
        paidAre(x, 0, 9, 0, 10, 20, 40);
        leftAre(x, 0, 9, 0, 1);
        x.fund(0, 70);
        paidAre(x, 0, 9, 0, 10, 20, 40);
        leftAre(x, 0, 9, 0, 0);
        sentence = "20: else each has left times its want by all wants of the STEP, cut; then the FUND is empty";
        x.fund(0, 69);
        // 9, 19, 39 and two over.
        paidAre(x, 0, 9, 0, 10, 20, 39);
        leftAre(x, 0, 9, 0, 0);
        x.fund(0, 35);
        paidAre(x, 0, 9, 0, 5, 10, 20);
        leftAre(x, 0, 9, 0, 0);
        sentence = "20: a FUND that is empty";
        x.fund(0, 0);
        paidAre(x, 0, 9, 0, 0, 0, 0);
        paidAre(x, 0, 9, 1, 0, 0, 0);
        leftAre(x, 0, 9, 0, 0);
    }

    private static void whatIsOver() {
        sentence = "20: what is over goes by one to each, by numbers, from the least on";
        LastLent x = three(10, 20, 40);
        int[][] rows = {{1, 1, 0, 0}, {2, 1, 0, 1}, {3, 1, 1, 1}, {4, 1, 1, 2}, {5, 1, 2, 2}, {6, 1, 2, 3}, {7, 1, 2, 4},
            {8, 2, 2, 4}};
        for (int[] row : rows) {
            x.fund(0, row[0]);
            paidAre(x, 0, 9, 0, row[1], row[2], row[3]);
            paidAre(x, 0, 9, 1, row[1], row[2], row[3]);
        }
        sentence = "20: what is over, by numbers, whoever came sooner or holds more";
        LastLent y = new LastLent();
        y.claim(DUES, 5, 9, 7, true, 0);
        y.claim(WAGE, 0, 0, 7, true, 0);
        y.claim(ROPE, 1, 5, 7, true, 0);
        y.fund(0, 20);
        paidAre(y, 0, 9, 0, 7, 7, 6);
        y.fund(0, 1);
        paidAre(y, 0, 9, 0, 1, 0, 0);
        sentence = "20: what is over goes to those of the STEP alone";
        LastLent z = under("ahead rope wage;");
        z.claim(WAGE, 0, 5, 7, true, 0);
        z.claim(ROPE, 0, 5, 7, true, 0);
        z.claim(ROPE, 0, 5, 7, true, 0);
        z.fund(0, 13);
        paidAre(z, 0, 9, 0, 0, 7, 6);
    }

    private static void theGreatestSums() {
        sentence = "20: fourteen CLAIMS of 999 and a SUM of 9999";
        LastLent x = new LastLent();
        for (int c = 0; c < 14; c++) {
            x.claim(WAGE, c % 6, 5, 999, true, 7);
        }
        x.fund(0, 9999);
        // 714 each are 9996, and three are over.
        for (int way = 0; way < 2; way++) {
            paidAre(x, 0, 9, way, 715, 715, 715, 714, 714, 714, 714, 714, 714, 714, 714, 714, 714, 714);
            due("all together", x.has(0, 9, way, NONE), 9999);
        }
        tell(x, 1, "rides wage ship freight cargo;");
        for (int f = 0; f < 5; f++) {
            x.fund(f, 9999);
        }
        for (int way = 0; way < 2; way++) {
            due("all five pay all", x.has(1, 9, way, NONE), 13986);
            leftAre(x, 1, 9, way, 0, 6012, 9999, 9999, 9999);
            due("holder 0 has three claims and the cargoes", x.has(1, 9, way, 0), 2997 + 29997);
        }
    }

    private static void notWhollyPaid() {
        sentence = "20: those that LIVE, RIDE on it and are not wholly PAID";
        LastLent x = under("rides wage ship freight;rides rope freight;");
        x.claim(WAGE, 0, 5, 10, true, 0);
        x.claim(ROPE, 0, 5, 10, true, 0);
        x.claim(ROPE, 0, 5, 10, true, 0);
        x.fund(0, 10);
        x.fund(1, 3);
        // The wage is wholly paid by the ship: what is over of freight goes to the next.
        paidAre(x, 0, 9, 0, 10, 2, 1);
        x.fund(0, 9);
        // The wage wants 1 of 21: 0, 1, 1, and the one over goes to it.
        paidAre(x, 0, 9, 0, 10, 1, 1);
        x.fund(0, 11);
        paidAre(x, 0, 9, 0, 10, 2, 1);
        leftAre(x, 0, 9, 0, 1, 0);
        sentence = "20: one that does not LIVE on d";
        x.claim(ROPE, 0, 10, 10, true, 0);
        paidAre(x, 0, 9, 0, 10, 2, 1, 0);
        paidAre(x, 0, 10, 0, 10, 1, 1, 1);
        paidAre(x, 0, 4, 0, 0, 0, 0, 0);
        paidAre(x, 0, 4, 1, 0, 0, 0, 0);
    }

    private static void stepByStep() {
        sentence = "20: by STEPS; then the FUND is empty";
        LastLent x = under("ahead wage rope;ahead rope pilot;");
        x.claim(PILOT, 0, 5, 10, true, 0);
        x.claim(ROPE, 0, 5, 10, true, 0);
        x.claim(WAGE, 0, 5, 10, true, 0);
        int[][] rows = {{0, 0, 0, 0}, {9, 0, 0, 9}, {10, 0, 0, 10}, {11, 0, 1, 10}, {20, 0, 10, 10}, {21, 1, 10, 10},
            {30, 10, 10, 10}, {31, 10, 10, 10}};
        for (int[] row : rows) {
            x.fund(0, row[0]);
            paidAre(x, 0, 9, 0, row[1], row[2], row[3]);
            due("left of " + row[0], x.left(0, 9, 0, 0), Math.max(0, row[0] - 30));
        }
        for (int bad : new int[] {-1, LOW, HIGH}) {
            due("paid of claim " + bad, x.paid(0, 1000, 2, bad), UNKNOWN);
            due("paid in land " + bad, x.paid(bad, 1000, 2, 0), UNKNOWN);
            due("paid on day " + bad, x.paid(0, bad, 0, 0), OUTSIDE);
            due("paid by way " + bad, x.paid(0, 0, bad, 0), OUTSIDE);
        }
        due("paid of claim 3", x.paid(0, 0, 0, 3), UNKNOWN);
        due("paid by way 2", x.paid(0, 0, 2, 0), OUTSIDE);
        due("paid on day 1000", x.paid(0, 1000, 0, 0), OUTSIDE);
        due("paid on day 999", x.paid(0, 999, 1, 0), 10);
    }

    private static void whatIsLeft() {
        sentence = "21: what is left of a FUND";
        LastLent x = under("rides wage ship freight cargo;");
        x.claim(WAGE, 0, 5, 100, true, 5);
        for (int f = 0; f < 5; f++) {
            x.fund(f, 30);
        }
        // Cargo 1 is none of its own.
        leftAre(x, 0, 9, 0, 0, 0, 0, 30, 20);
        leftAre(x, 0, 4, 0, 30, 30, 30, 30, 30);
        leftAre(x, 0, 9, 1, 0, 0, 0, 30, 20);
        x.fund(4, 10);
        leftAre(x, 0, 9, 0, 0, 0, 0, 30, 0);
        x.fund(4, 9);
        leftAre(x, 0, 9, 0, 0, 0, 0, 30, 0);
        for (int bad : new int[] {-1, 5, LOW, HIGH}) {
            due("left of fund " + bad, x.left(0, 1000, 2, bad), UNKNOWN);
        }
    }

    // ---- promise 22

    private static void whatAHolderHas() {
        sentence = "22: what all its CLAIMS are PAID, and what is left of its CARGOES (of SHIP, FREIGHT nobody)";
        LastLent x = new LastLent();
        int[] sums = {1, 20, 300, 4000, 5000};
        for (int f = 0; f < 5; f++) {
            x.fund(f, sums[f]);
        }
        due("the owner of all three", x.has(0, 0, 0, 0), 9300);
        for (int h = 1; h < 6; h++) {
            due("holder " + h, x.has(0, 0, 0, h), 0);
        }
        due("h = NONE: CLAIMS alone", x.has(0, 0, 0, NONE), 0);
        x.owner(0, 5);
        x.owner(2, 5);
        due("of cargoes 0 and 2", x.has(0, 0, 0, 5), 5300);
        due("of cargo 1", x.has(0, 0, 1, 0), 4000);
        tell(x, 0, "rides harm cargo;");
        x.claim(HARM, 5, 3, 100, true, 1);
        x.claim(HARM, 2, 3, 200, true, 2);
        due("its claim out of its own cargo", x.has(0, 3, 0, 5), 5300);
        due("another one's claim", x.has(0, 3, 0, 0), 3800);
        due("that one", x.has(0, 3, 0, 2), 200);
        due("h = NONE: all CLAIMS together", x.has(0, 3, 1, NONE), 300);
        for (int h : new int[] {-2, 6, LOW, HIGH}) {
            due("has of " + h, x.has(0, 0, 0, h), UNKNOWN);
            due("has of " + h + " on day 1000", x.has(0, 1000, 2, h), UNKNOWN);
        }
        due("has of NONE on day 1000", x.has(0, 1000, 0, NONE), OUTSIDE);
        due("has of NONE by way 2", x.has(0, 0, 2, NONE), OUTSIDE);
        due("has of NONE in land 4", x.has(4, 0, 2, NONE), UNKNOWN);
    }

    // ---- promise 23

    private static void straightOrders() {
        sentence = "23: 0 STRAIGHT: the ORDER is 0, 1, 2, 3, 4";
        LastLent x = chain();
        orderIs(x, 0, 9, 0, 0, 1, 2, 3, 4);
        orderIs(x, 0, 0, 0, 0, 1, 2, 3, 4);
        for (int i : new int[] {-1, 5, LOW, HIGH}) {
            due("order of " + i, x.order(0, 0, 0, i), UNKNOWN);
            due("order of " + i + " on day 1000", x.order(0, 1000, 2, i), UNKNOWN);
        }
        due("order by way -1", x.order(0, 0, -1, 0), OUTSIDE);
        due("order by way 2", x.order(0, 0, 2, 4), OUTSIDE);
    }

    private static void ofLikeOrdersTheFirst() {
        sentence = "23: 1 MARSHALLED: of like ones the first, FUND by FUND";
        LastLent x = under("rides wage ship cargo;rides rope ship;");
        orderIs(x, 0, 9, 1, 0, 1, 2, 3, 4);
        x.claim(WAGE, 0, 5, 10, true, 1);
        x.claim(ROPE, 0, 5, 10, true, 0);
        orderIs(x, 0, 9, 1, 0, 1, 2, 3, 4);
        x.fund(2, 10);
        orderIs(x, 0, 9, 1, 0, 1, 2, 3, 4);
        x.fund(0, 20);
        // The ship pays both by itself.
        orderIs(x, 0, 9, 1, 0, 1, 2, 3, 4);
        x.fund(0, 19);
        // Straight: 10 and 9, then nothing more is wanted of cargo 0: 19; cargo 0 first: all 20.
        orderIs(x, 0, 9, 1, 1, 2, 0, 3, 4);
        due("all", x.has(0, 9, 1, NONE), 20);
        x.fund(0, 10);
        orderIs(x, 0, 9, 1, 1, 2, 0, 3, 4);
        orderIs(x, 0, 4, 1, 0, 1, 2, 3, 4);
        x.fund(0, 1);
        // Straight: the one goes to the wage, cargo 0 pays 9 more: 10; cargo 0 first: 10 and 1.
        orderIs(x, 0, 9, 1, 1, 2, 0, 3, 4);
        due("eleven", x.has(0, 9, 1, NONE), 11);
        x.fund(0, 0);
        orderIs(x, 0, 9, 1, 0, 1, 2, 3, 4);
    }

    /** All are paid only if fund 4 goes first, then 3, 2, 1, and 0. */
    private static LastLent chain() {
        LastLent x = under("rides harm cargo;rides saved freight cargo;rides need ship freight;rides rope freight;");
        x.claim(HARM, 0, 5, 10, true, 6);
        x.claim(HARM, 0, 5, 10, true, 3);
        x.claim(HARM, 0, 5, 10, true, 2);
        x.claim(HARM, 0, 5, 10, true, 1);
        x.claim(SAVED, 0, 5, 10, true, 1);
        x.claim(NEED, 0, 5, 10, true, 0);
        x.claim(ROPE, 0, 5, 10, true, 0);
        x.claim(WAGE, 0, 5, 10, true, 0);
        int[] sums = {10, 20, 20, 20, 10};
        for (int f = 0; f < 5; f++) {
            x.fund(f, sums[f]);
        }
        return x;
    }

    private static void theLastOfAllOrders() {
        sentence = "23: of all orders of the five FUNDS that by which most is PAID in all";
        LastLent x = chain();
        orderIs(x, 0, 9, 1, 4, 3, 2, 1, 0);
        paidAre(x, 0, 9, 1, 10, 10, 10, 10, 10, 10, 10, 10);
        leftAre(x, 0, 9, 1, 0, 0, 0, 0, 0);
        due("all 80", x.has(0, 9, 1, NONE), 80);
    }

    // ---- promise 24

    private static void backAtItsEdges() {
        sentence = "24: what a CARGO paid to CLAIMS that RIDE on SHIP too, its OWNER asks of what is left of SHIP behind all";
        LastLent x = under("rides need ship freight cargo;rides rope freight;ahead need rope;ahead wage rope;");
        x.claim(NEED, 1, 5, 70, true, 1);
        x.claim(WAGE, 2, 5, 30, true, 0);
        x.claim(ROPE, 3, 5, 20, true, 0);
        x.fund(1, 70);
        x.fund(2, 10);
        // Cargo 0 pays 10 to the need, freight 60 to it and 10 to the rope, the ship the wage: 110 in all.
        int[][] rows = {{50, 10, 20}, {41, 10, 11}, {40, 10, 10}, {39, 9, 9}, {31, 1, 1}, {30, 0, 0}};
        for (int[] row : rows) {
            x.fund(0, row[0]);
            orderIs(x, 0, 9, 1, 2, 1, 0, 3, 4);
            due("it asks", x.back(0, 9, 1, 0, 0), 10);
            due("what comes of a ship of " + row[0], x.back(0, 9, 1, 0, 1), row[1]);
            due("left of the ship is so ahead of it", x.left(0, 9, 1, 0), row[2]);
            due("the owner HAS none of it", x.has(0, 9, 1, 0), 0);
            for (int cargo = 1; cargo < 3; cargo++) {
                due("cargo " + cargo + " asks", x.back(0, 9, 1, cargo, 0), 0);
                due("cargo " + cargo + " has", x.back(0, 9, 1, cargo, 1), 0);
            }
        }
        sentence = "24: CLAIMS that do not RIDE on SHIP";
        LastLent y = under("rides harm cargo;");
        y.claim(HARM, 0, 5, 10, true, 7);
        for (int f = 0; f < 5; f++) {
            y.fund(f, 9);
        }
        for (int cargo = 0; cargo < 3; cargo++) {
            due("cargo " + cargo + " asks", y.back(0, 9, 0, cargo, 0), 0);
            due("cargo " + cargo + " has", y.back(0, 9, 1, cargo, 1), 0);
        }
        sentence = "24: STRAIGHT the ship goes first, so nothing of it is left";
        LastLent z = under("rides need ship cargo;");
        z.claim(NEED, 0, 5, 10, true, 7);
        z.fund(0, 4);
        z.fund(2, 1);
        z.fund(3, 2);
        z.fund(4, 9);
        int[] asks = {1, 2, 3};
        for (int cargo = 0; cargo < 3; cargo++) {
            due("cargo " + cargo + " asks", z.back(0, 9, 0, cargo, 0), asks[cargo]);
            due("cargo " + cargo + " has", z.back(0, 9, 0, cargo, 1), 0);
            due("of a day on which none lives", z.back(0, 4, 0, cargo, 0), 0);
        }
        for (int bad : new int[] {-1, 3, LOW, HIGH}) {
            due("back of cargo " + bad, z.back(0, 1000, 2, bad, 2), UNKNOWN);
        }
        for (int bad : new int[] {-1, 2, LOW, HIGH}) {
            due("back, what " + bad, z.back(0, 0, 0, 0, bad), OUTSIDE);
            due("back in land 4, what " + bad, z.back(4, 0, 0, 0, bad), UNKNOWN);
        }
    }

    private static void backOverByOne() {
        sentence = "24: all CARGOES together in one STEP, as above (by CARGOES)";
        LastLent x = under("rides need ship cargo;");
        x.claim(NEED, 1, 5, 30, true, 7);
        x.claim(WAGE, 2, 5, 30, true, 0);
        for (int f = 2; f < 5; f++) {
            x.fund(f, 10);
        }
        // Up to 39 all three must pay the need ahead of the ship, up to 49 two, up to 59 one: rows of the ship's sum, what
        // each asks, and what comes of the ship when need and wage are paid.
        int[][] rows = {{30, 10, 10, 10, 0, 0, 0}, {31, 10, 10, 10, 1, 0, 0}, {32, 10, 10, 10, 1, 1, 0},
            {33, 10, 10, 10, 1, 1, 1}, {34, 10, 10, 10, 2, 1, 1}, {38, 10, 10, 10, 3, 3, 2}, {39, 10, 10, 10, 3, 3, 3},
            {40, 10, 10, 0, 0, 0, 0}, {45, 10, 10, 0, 3, 2, 0}, {49, 10, 10, 0, 5, 4, 0}, {50, 10, 0, 0, 0, 0, 0},
            {59, 10, 0, 0, 9, 0, 0}};
        for (int[] row : rows) {
            x.fund(0, row[0]);
            due("all are paid of a ship of " + row[0], x.has(0, 9, 1, NONE), 60);
            for (int cargo = 0; cargo < 3; cargo++) {
                due("of a ship of " + row[0] + ", cargo " + cargo + " asks", x.back(0, 9, 1, cargo, 0), row[1 + cargo]);
                due("of a ship of " + row[0] + ", cargo " + cargo, x.back(0, 9, 1, cargo, 1), row[4 + cargo]);
            }
        }
        x.fund(0, 60);
        due("a ship that pays all straight", x.back(0, 9, 1, 0, 0), 0);
        due("and left is nothing", x.left(0, 9, 1, 0), 0);
    }

    // ---- promises 25 and 26

    private static void wakeDays() {
        sentence = "25: WAKE: what a CLAIM is PAID on d, if it was ASKED on a DAY e";
        LastLent x = under("sale;");
        tell(x, 1, "dies wage 5;");
        x.claim(WAGE, 1, 10, 40, true, 0);
        x.fund(0, 30);
        for (int way = 0; way < 2; way++) {
            due("e is d", x.wake(0, 20, way, 0, 20), 30);
            due("e is d and one", x.wake(0, 20, way, 0, 21), 0);
            due("e is d less one", x.wake(0, 20, way, 0, 19), 30);
            due("e is 0", x.wake(0, 20, way, 0, 0), 30);
            due("e is 999", x.wake(0, 20, way, 0, 999), 0);
            due("d and e are 999", x.wake(0, 999, way, 0, 999), 30);
            due("d is ahead of its day", x.wake(0, 9, way, 0, 0), 0);
            due("it dies, e is its last day", x.wake(1, 20, way, 0, 15), 30);
            due("it dies, e is the next day", x.wake(1, 20, way, 0, 16), 0);
        }
        x.ask(0, 15);
        due("instead of the day on which it is asked", x.wake(1, 20, 0, 0, 16), 0);
        due("told(0, 6) is as it was", x.told(0, 6), 15);
        sentence = "25: OUTSIDE (e, too)";
        for (int e : new int[] {-1, 1000, LOW, HIGH}) {
            due("wake by e = " + e, x.wake(0, 20, 0, 0, e), OUTSIDE);
            due("wake of claim 1 by e = " + e, x.wake(0, 20, 0, 1, e), UNKNOWN);
            due("wake of NONE by e = " + e, x.wake(0, 20, 0, NONE, e), UNKNOWN);
            due("wake in land 4 by e = " + e, x.wake(4, 20, 0, 0, e), UNKNOWN);
        }
    }

    private static void bestOfLikeLands() {
        sentence = "26: BEST LAND: where it HAS most (of like ones the least)";
        LastLent x = new LastLent();
        x.claim(WAGE, 1, 5, 10, true, 0);
        x.fund(0, 10);
        due("four like ones", x.best(9, 0, 1, 0), 0);
        due("what it HAS", x.best(9, 0, 1, 1), 10);
        tell(x, 0, "costs 1;");
        due("the first of three", x.best(9, 0, 1, 0), 1);
        tell(x, 1, "costs 1;");
        tell(x, 2, "costs 1;");
        due("the last", x.best(9, 1, 1, 0), 3);
        due("what it HAS there", x.best(9, 1, 1, 1), 10);
        tell(x, 3, "costs 1;");
        due("four like ones again", x.best(9, 1, 1, 0), 0);
        due("what it HAS there", x.best(9, 1, 1, 1), 9);
        due("who HAS nothing anywhere", x.best(9, 0, 5, 0), 0);
        due("who HAS nothing anywhere", x.best(9, 0, 5, 1), 0);
        for (int bad : new int[] {-1, LOW, HIGH}) {
            due("best of " + bad, x.best(1000, 2, bad, 2), UNKNOWN);
            due("best on " + bad, x.best(bad, 0, 0, 0), OUTSIDE);
            due("best by way " + bad, x.best(0, bad, 0, 0), OUTSIDE);
            due("best, what " + bad, x.best(0, 0, 0, bad), OUTSIDE);
        }
        due("best of 6", x.best(0, 0, 6, 0), UNKNOWN);
        due("best on 1000", x.best(1000, 0, 0, 0), OUTSIDE);
        due("best by way 2", x.best(0, 2, 0, 0), OUTSIDE);
        due("best, what 2", x.best(0, 0, 0, 2), OUTSIDE);
    }

    // ---- promises 27 and 28

    private static void buyAtItsEdges() {
        sentence = "27: BEST BUY is that with the greatest of PAID less price, if that is above 0 (of like ones the least)";
        LastLent x = new LastLent();
        x.claim(WAGE, 1, 5, 100, true, 0);
        x.fund(0, 60);
        due("at 59", x.buy(0, 9, 0, 0, 59, 0), 0);
        due("at 59", x.buy(0, 9, 0, 0, 59, 1), 1);
        due("at 60", x.buy(0, 9, 0, 0, 60, 0), NONE);
        due("at 60", x.buy(0, 9, 0, 0, 60, 1), NONE);
        due("at 61", x.buy(0, 9, 0, 0, 61, 1), NONE);
        due("at 1", x.buy(0, 9, 0, 0, 1, 1), 59);
        due("at 200", x.buy(0, 9, 0, 0, 200, 1), NONE);
        due("its own", x.buy(0, 9, 0, 1, 1, 0), NONE);
        due("ahead of its day", x.buy(0, 4, 0, 0, 1, 0), NONE);
        sentence = "27: AMOUNT times q / 100 (cut)";
        LastLent y = new LastLent();
        y.claim(WAGE, 1, 5, 1, true, 0);
        y.fund(0, 1);
        due("1 at 99", y.buy(0, 9, 0, 0, 99, 1), 1);
        due("1 at 100", y.buy(0, 9, 0, 0, 100, 1), NONE);
        LastLent z = new LastLent();
        z.claim(WAGE, 1, 5, 999, true, 0);
        z.fund(0, 999);
        due("999 at 1: 9", z.buy(0, 9, 0, 0, 1, 1), 990);
        due("999 at 99: 989", z.buy(0, 9, 0, 0, 99, 1), 10);
        due("999 at 100", z.buy(0, 9, 0, 0, 100, 0), NONE);
        sentence = "27: of like ones the least";
        LastLent v = three(10, 10, 11);
        v.fund(0, 31);
        due("of 10, 10, 11 at 50: 5, 5, 6", v.buy(0, 9, 0, 5, 50, 0), 2);
        due("of 10, 10, 11 at 99: 1, 1, 1", v.buy(0, 9, 0, 5, 99, 0), 0);
        due("holder 0 of these", v.buy(0, 9, 0, 0, 99, 0), 1);
        due("of 10, 10, 11 at 1: 10, 10, 11", v.buy(0, 9, 0, 5, 1, 1), 11);
        sentence = "27: q of a hundred (1 .. 200)";
        for (int q : new int[] {0, 201, -1, LOW, HIGH}) {
            due("at " + q, v.buy(0, 9, 0, 5, q, 0), OUTSIDE);
            due("holder 6 at " + q, v.buy(0, 9, 0, 6, q, 0), UNKNOWN);
            due("land 4 at " + q, v.buy(4, 9, 0, 5, q, 0), UNKNOWN);
        }
        for (int bad : new int[] {-1, 2, LOW, HIGH}) {
            due("what " + bad, v.buy(0, 9, 0, 5, 1, bad), OUTSIDE);
        }
        due("holder NONE", v.buy(0, 9, 0, NONE, 1, 0), UNKNOWN);
    }

    /** Marshalled, the rope of another one costs holder 0 its cargo 0, which is worth 100. */
    private static LastLent cargoAndRope(int rope) {
        LastLent x = under("rides wage ship cargo;rides rope ship;ahead wage rope;");
        x.claim(WAGE, 0, 5, 80, true, 1);
        x.claim(ROPE, 1, 5, rope, true, 0);
        x.claim(WAGE, 2, 5, 30, true, 1);
        x.fund(0, 120);
        x.fund(2, 100);
        return x;
    }

    private static void clearAtItsEdges() {
        sentence = "28: what it HAS then less what it HAS now less the AMOUNT; BEST CLEAR likewise (above 0)";
        LastLent x = cargoAndRope(98);
        due("100 less 98", x.clear(0, 9, 1, 0, 0), 1);
        due("100 less 98", x.clear(0, 9, 1, 0, 1), 2);
        x = cargoAndRope(99);
        due("100 less 99", x.clear(0, 9, 1, 0, 0), 1);
        due("100 less 99", x.clear(0, 9, 1, 0, 1), 1);
        x = cargoAndRope(100);
        due("100 less 100", x.clear(0, 9, 1, 0, 0), NONE);
        due("100 less 100", x.clear(0, 9, 1, 0, 1), NONE);
        x = cargoAndRope(101);
        due("100 less 101", x.clear(0, 9, 1, 0, 1), NONE);
        sentence = "28: a CLAIM of another one";
        x = cargoAndRope(50);
        due("the rope", x.clear(0, 9, 1, 0, 1), 50);
        x.pass(1, 0);
        x.pass(2, 0);
        due("all are its own", x.clear(0, 9, 1, 0, 0), NONE);
        due("nothing is gone", x.count(1), 3);
        x = cargoAndRope(11);
        due("a rope of 11", x.clear(0, 9, 1, 0, 1), 89);
        x.pass(1, 0);
        // The rope gone for nothing would be worth 78 to it; the wage of 30 gone leaves the ship enough for all else.
        due("not its own", x.clear(0, 9, 1, 0, 0), 2);
        due("210 less 91 and 30, less what it has of the wage", x.clear(0, 9, 1, 0, 1), 70);
        x.pass(2, 0);
        due("none but its own", x.clear(0, 9, 1, 0, 0), NONE);
        sentence = "28: CLAIM 0, and a CARGO of another OWNER";
        x = under("rides wage ship cargo;rides rope ship;ahead wage rope;");
        x.claim(ROPE, 1, 5, 30, true, 0);
        x.claim(WAGE, 2, 5, 110, true, 1);
        x.fund(0, 120);
        x.fund(2, 100);
        x.owner(0, 5);
        due("CLAIM 0 for holder 5", x.clear(0, 9, 1, 5, 0), 0);
        due("100 less 30", x.clear(0, 9, 1, 5, 1), 70);
        due("holder 0 owns no cargo that pays", x.clear(0, 9, 1, 0, 0), NONE);
        sentence = "28: of like ones the least";
        LastLent y = cargoAndRope(11);
        // Of a rope of 11 the ship pays 10 straight; with each rope of 11 or more it is marshalled.
        due("one rope", y.clear(0, 9, 1, 0, 1), 89);
        LastLent z = under("rides wage ship cargo;rides rope ship;rides need freight cargo;rides pilot freight;");
        z.claim(WAGE, 5, 5, 10, true, 1);
        z.claim(ROPE, 1, 5, 2, true, 0);
        z.claim(NEED, 5, 5, 10, true, 2);
        z.claim(PILOT, 1, 5, 2, true, 0);
        z.fund(0, 10);
        z.fund(1, 10);
        z.fund(2, 10);
        z.fund(3, 10);
        // Each of ship and freight lacks 2, so both cargoes go first and are lost; without either one, one is had back.
        due("all are paid", z.has(0, 9, 1, NONE), 24);
        due("now", z.has(0, 9, 1, 0), 0);
        due("10 less 2, of two like ones", z.clear(0, 9, 1, 0, 0), 1);
        due("10 less 2", z.clear(0, 9, 1, 0, 1), 8);
        z.pass(1, 0);
        due("the other one", z.clear(0, 9, 1, 0, 0), 3);
        for (int bad : new int[] {-1, 6, LOW, HIGH}) {
            due("clear by " + bad, z.clear(0, 1000, 2, bad, 2), UNKNOWN);
        }
        for (int bad : new int[] {-1, 2, LOW, HIGH}) {
            due("clear, what " + bad, z.clear(0, 9, 1, 0, bad), OUTSIDE);
        }
    }

    // ---- promise 29

    private static void moreDays() {
        sentence = "29: it goes from DAY d and 1 to DAY e; OUTSIDE (e later than d, to 999)";
        LastLent x = under("later;");
        x.claim(ROPE, 1, 11, 10, true, 0);
        x.claim(PILOT, 2, 10, 10, true, 0);
        x.fund(0, 10);
        // On day 10 the pilot has all; on e the rope of day 11 is of the new voyage, and the wage, too.
        due("d 10, e 11: 10 of 11, the rope", x.more(0, 10, 0, 1, 3, 11, 1, 0, 0), 1000);
        due("d 10, e 11: the wage", x.more(0, 10, 0, 3, 3, 11, 1, 0, 0), 0);
        due("d 10, e 11: the pilot", x.more(0, 10, 0, 2, 3, 11, 1, 0, 0), -1000);
        due("d 9: both are of the new voyage", x.more(0, 9, 0, 2, 3, 11, 1, 0, 0), 500);
        due("d 11: neither is, so the wage has 1 and each 4 or 5", x.more(0, 11, 0, 3, 3, 12, 1, 0, 0), 100);
        due("d 11: the rope had 5 and has 5", x.more(0, 11, 0, 1, 3, 12, 1, 0, 0), 0);
        due("d 11: the pilot had 5 and has 4", x.more(0, 11, 0, 2, 3, 12, 1, 0, 0), -100);
        due("d 998, e 999", x.more(0, 998, 0, 3, 3, 999, 1, 0, 0), 100);
        due("d 0, e 999", x.more(0, 0, 0, 3, 3, 999, 1, 0, 0), 0);
        due("d 0, e 1: the wage alone lives", x.more(0, 0, 0, 3, 3, 1, 1, 0, 0), 100);
        int[][] outside = {{10, 10}, {10, 9}, {0, 0}, {998, 1000}, {999, 999}, {999, 1000}, {999, 0}, {1000, 1001}, {-1, 5},
            {-1, 0}, {5, -1}, {5, LOW}, {5, HIGH}, {LOW, 5}, {HIGH, 5}, {LOW, HIGH}};
        for (int[] days : outside) {
            due("d " + days[0] + ", e " + days[1], x.more(0, days[0], 0, 1, 3, days[1], 1, 0, 0), OUTSIDE);
        }
        due("a voyage told so before is not there", x.count(0), 0);
        due("nor the claim", x.count(1), 2);
    }

    private static void moreChances() {
        sentence = "29: with a chance of c of a hundred (0 .. 100) all FUNDS are lost instead";
        LastLent x = under("first wage;");
        x.claim(ROPE, 1, 5, 50, true, 0);
        x.fund(0, 51);
        due("c 0: 50 stay 50", x.more(0, 9, 0, 1, 2, 20, 1, 0, 0), 0);
        due("c 1", x.more(0, 9, 0, 1, 2, 20, 1, 0, 1), -50);
        due("c 99", x.more(0, 9, 0, 1, 2, 20, 1, 0, 99), -4950);
        due("c 100", x.more(0, 9, 0, 1, 2, 20, 1, 0, 100), -5000);
        for (int c : new int[] {-1, 101, LOW, HIGH}) {
            due("c " + c, x.more(0, 9, 0, 1, 2, 20, 1, 0, c), OUTSIDE);
        }
        sentence = "29: WISE: the SET of HOLDERS for whom it is above 0";
        due("the wage of 1 at 99: 1", x.more(0, 9, 0, 2, 2, 20, 1, 0, 99), 1);
        due("wise at 99", x.more(0, 9, 0, NONE, 2, 20, 1, 0, 99), 4);
        due("the wage of 1 at 100: 0", x.more(0, 9, 0, 2, 2, 20, 1, 0, 100), 0);
        due("wise at 100", x.more(0, 9, 0, NONE, 2, 20, 1, 0, 100), 0);
        due("wise for holder 0", x.more(0, 9, 0, NONE, 0, 20, 1, 0, 0), 1);
        due("wise for holder 5", x.more(0, 9, 0, NONE, 5, 20, 1, 0, 0), 32);
        due("the rope's holder, 0 and the wage", x.more(0, 9, 0, NONE, 1, 20, 1, 0, 0), 2);
        sentence = "29: the least and the greatest WORTH";
        LastLent y = under("rides wage ship freight cargo;");
        for (int c = 0; c < 13; c++) {
            y.claim(ROPE, 0, 5, 999, true, 0);
        }
        for (int f = 0; f < 5; f++) {
            y.fund(f, f == 1 ? 0 : 9999);
        }
        due("all is lost", y.more(0, 9, 0, 0, 5, 20, 999, 9999, 100), -3999600);
        // Of the ship the ropes have 714 each and three over.
        due("all ropes are owed on e alone", y.more(0, 4, 0, 0, 5, 5, 999, 9999, 0), 928500);
    }

    private static void moreFreight() {
        sentence = "29: FREIGHT becomes f more; OUTSIDE (w 1 .. 999; f 0 .. 9999); NOT: FREIGHT would be above 9999";
        LastLent x = under("rides wage freight;");
        due("w 1, f 0", x.more(0, 9, 0, 2, 2, 20, 1, 0, 0), 0);
        due("w 1, f 1", x.more(0, 9, 0, 2, 2, 20, 1, 1, 0), 100);
        due("w 999, f 998", x.more(0, 9, 0, 2, 2, 20, 999, 998, 0), 99800);
        due("w 999, f 9999", x.more(0, 9, 0, 2, 2, 20, 999, 9999, 0), 99900);
        for (int w : new int[] {0, 1000, -1, LOW, HIGH}) {
            due("w " + w, x.more(0, 9, 0, 2, 2, 20, w, 1, 0), OUTSIDE);
        }
        for (int f : new int[] {-1, 10000, LOW, HIGH}) {
            due("f " + f, x.more(0, 9, 0, 2, 2, 20, 1, f, 0), OUTSIDE);
        }
        x.fund(1, 1);
        due("1 and 9998", x.more(0, 9, 0, 2, 2, 20, 999, 9998, 0), 99900);
        due("1 and 9999", x.more(0, 9, 0, 2, 2, 20, 999, 9999, 0), NOT);
        due("1 and 10000", x.more(0, 9, 0, 2, 2, 20, 999, 10000, 0), OUTSIDE);
        x.fund(1, 9999);
        due("9999 and 0", x.more(0, 9, 0, 2, 2, 20, 999, 0, 0), 99900);
        due("9999 and 1", x.more(0, 9, 0, 2, 2, 20, 999, 1, 0), NOT);
        due("9999 and 9999", x.more(0, 9, 0, 2, 2, 20, 999, 9999, 0), NOT);
        due("FREIGHT is as it was", x.fund(1, 0), 9999);
        x.fund(0, 9999);
        x.fund(2, 9999);
        due("other FUNDS may be full", x.more(0, 9, 0, 2, 2, 20, 999, 9999, 0), 99900);
    }

    private static void moreRoom() {
        sentence = "29: NOT: the last VOYAGE ends later than d";
        LastLent x = new LastLent();
        x.voyage(1, 2);
        x.voyage(5, 10);
        due("d 9", x.more(0, 9, 0, 2, 2, 20, 1, 0, 0), NOT);
        due("d 2, the end of another one", x.more(0, 2, 0, 2, 2, 20, 1, 0, 0), NOT);
        due("d 0", x.more(0, 0, 0, 2, 2, 20, 1, 0, 0), NOT);
        due("d 10", x.more(0, 10, 0, 2, 2, 20, 1, 0, 0), 0);
        due("d 11", x.more(0, 11, 0, 2, 2, 20, 1, 0, 0), 0);
        sentence = "29: NOT: there are 6 VOYAGES";
        for (int v = 2; v < 6; v++) {
            due(v + " voyages", x.more(0, 50, 0, 2, 2, 60, 1, 0, 0), 0);
            x.voyage(10 + v, 10 + v);
        }
        due("6 voyages", x.more(0, 50, 0, 2, 2, 60, 1, 0, 0), NOT);
        sentence = "29: NOT: 14 CLAIMS";
        LastLent y = new LastLent();
        for (int c = 0; c < 14; c++) {
            due(c + " claims", y.more(0, 50, 0, 2, 2, 60, 1, 0, 0), 0);
            y.claim(WAGE, 0, 5, 1, true, 0);
        }
        due("14 claims", y.more(0, 50, 0, 2, 2, 60, 1, 0, 0), NOT);
        sentence = "29: UNKNOWN and OUTSIDE come ahead of NOT";
        due("p -2", y.more(0, 50, 0, -2, 2, 60, 1, 0, 0), UNKNOWN);
        due("p 6", y.more(0, 50, 0, 6, 2, 60, 1, 0, 0), UNKNOWN);
        due("h NONE", y.more(0, 50, 0, 2, NONE, 60, 1, 0, 0), UNKNOWN);
        due("h 6", y.more(0, 50, 0, 2, 6, 60, 1, 0, 0), UNKNOWN);
        due("land 4", y.more(4, 50, 0, 2, 2, 60, 0, 0, 0), UNKNOWN);
        due("w 0", y.more(0, 50, 0, 2, 2, 60, 0, 0, 0), OUTSIDE);
        due("way 2", y.more(0, 50, 2, 2, 2, 60, 1, 0, 0), OUTSIDE);
        due("p NONE", y.more(0, 50, 0, NONE, 2, 60, 1, 0, 0), NOT);
    }

    private static void moreWakesAndDies() {
        sentence = "29: a WAGE of w is owed then to HOLDER h, of DAY e (ASKED then, no CARGOES, with LEAVE)";
        LastLent x = under("sale;leave wage;dies wage 1;rides wage ship cargo;");
        x.fund(0, 7);
        x.fund(2, 9);
        due("it lives on e", x.more(0, 9, 0, 5, 5, 20, 10, 0, 0), 700);
        due("the owner of cargo 0 keeps it", x.more(0, 9, 0, 0, 5, 20, 10, 0, 0), 0);
        sentence = "29: what it HAS on e then, less what it HAS on d";
        LastLent y = under("dies rope 5;first rope;");
        y.claim(ROPE, 1, 10, 4, true, 0);
        y.fund(0, 4);
        due("it lives on both", y.more(0, 14, 0, 1, 2, 15, 1, 0, 0), 0);
        due("it lives on d", y.more(0, 15, 0, 1, 2, 16, 1, 0, 0), -400);
        due("it lives on e", y.more(0, 9, 0, 1, 2, 10, 1, 0, 0), 400);
        due("it lives on neither", y.more(0, 9, 0, 1, 2, 16, 1, 0, 0), 0);
        sentence = "29: marshalled on both days";
        LastLent z = under("rides wage ship freight;rides rope ship;");
        z.claim(ROPE, 1, 5, 10, true, 0);
        z.fund(0, 10);
        due("straight, the wage takes 5 of the ship", z.more(0, 9, 0, 1, 2, 20, 10, 10, 0), -500);
        due("marshalled, freight pays the wage", z.more(0, 9, 1, 1, 2, 20, 10, 10, 0), 0);
    }

    // ---- promise 30

    private static void hangWithoutIt() {
        sentence = "30: HANG: what all others are PAID changes, without sign, all together, if it were not there (what = 0)";
        LastLent x = under("ahead wage rope;");
        x.claim(WAGE, 0, 5, 10, true, 0);
        due("no others", x.hang(0, 9, 0, 0, 0), 0);
        x.claim(ROPE, 0, 5, 10, true, 0);
        x.claim(ROPE, 0, 5, 10, true, 0);
        x.fund(0, 20);
        due("5 and 5 become 10 and 10", x.hang(0, 9, 0, 0, 0), 10);
        due("one rope: 5 become 10", x.hang(0, 9, 0, 1, 0), 5);
        x.fund(0, 30);
        due("there is enough", x.hang(0, 9, 0, 0, 0), 0);
        x.fund(0, 29);
        due("one is wanting", x.hang(0, 9, 0, 0, 0), 1);
        x.fund(0, 0);
        due("there is nothing", x.hang(0, 9, 0, 0, 0), 0);
        due("it does not live yet", x.hang(0, 4, 0, 0, 0), 0);
        sentence = "30: changes up and down do not make up for one another";
        LastLent y = three(3, 1, 1);
        y.fund(0, 3);
        // 1 and one over, 0 and one over, 0; without the last 2 and one over, 0.
        paidAre(y, 0, 9, 0, 2, 1, 0);
        due("one up, one down", y.hang(0, 9, 0, 2, 0), 2);
        sentence = "30: the last of fourteen";
        LastLent z = new LastLent();
        for (int c = 0; c < 14; c++) {
            z.claim(WAGE, 0, 5, 1, true, 0);
        }
        z.fund(0, 13);
        due("it had nothing", z.hang(0, 9, 0, 13, 0), 0);
        due("another one's place is the last one's", z.hang(0, 9, 1, 0, 0), 1);
        for (int bad : new int[] {-2, 14, LOW, HIGH}) {
            due("hang of " + bad, z.hang(0, 1000, 2, bad, 4), UNKNOWN);
        }
        for (int bad : new int[] {-1, 4, LOW, HIGH}) {
            due("hang, what " + bad, z.hang(0, 9, 0, 0, bad), OUTSIDE);
            due("hang of NONE, what " + bad, z.hang(0, 9, 0, NONE, bad), OUTSIDE);
            due("hang in land 4, what " + bad, z.hang(4, 9, 0, 0, bad), UNKNOWN);
        }
    }

    private static void hangByLeaveAndDay() {
        sentence = "30: if its LEAVE were the other (1)";
        LastLent x = under("leave wage;first wage;");
        x.claim(WAGE, 0, 5, 10, true, 0);
        x.claim(WAGE, 0, 5, 10, false, 0);
        x.claim(ROPE, 0, 5, 20, false, 0);
        x.fund(0, 20);
        due("with leave, then without", x.hang(0, 9, 0, 0, 1), 10);
        due("without, then with", x.hang(0, 9, 0, 1, 1), 10);
        due("a kind that needs none", x.hang(0, 9, 0, 2, 1), 0);
        due("told(0, 4)", x.told(0, 4), 1);
        due("told(1, 4)", x.told(1, 4), 0);
        sentence = "30: its DAY one more (2; if it is 999 nothing changes)";
        LastLent y = under("within later;");
        y.claim(WAGE, 0, 998, 10, true, 0);
        y.claim(WAGE, 0, 999, 10, true, 0);
        y.claim(WAGE, 0, 999, 10, true, 0);
        y.fund(0, 20);
        due("998 becomes 999: 10 and 10 become 7 and 6", y.hang(0, 999, 0, 0, 2), 7);
        due("999 stays", y.hang(0, 999, 0, 1, 2), 0);
        due("999 stays", y.hang(0, 999, 0, 2, 2), 0);
        due("on 998 it lives no more", y.hang(0, 998, 0, 0, 2), 0);
        y.ask(1, 0);
        due("told(0, 2)", y.told(0, 2), 998);
        LastLent z = new LastLent();
        z.claim(WAGE, 0, 5, 10, true, 0);
        z.claim(WAGE, 0, 5, 10, true, 0);
        z.fund(0, 10);
        due("on its day: tomorrow it would live", z.hang(0, 5, 0, 0, 2), 5);
        due("on the next day", z.hang(0, 6, 0, 0, 2), 0);
        sentence = "30: its DAY one more, and so its VOYAGE";
        LastLent v = under("later;");
        v.voyage(10, 20);
        v.claim(WAGE, 0, 9, 10, true, 0);
        v.claim(WAGE, 0, 10, 10, true, 0);
        v.fund(0, 10);
        due("it comes to the other's voyage", v.hang(0, 30, 0, 0, 2), 5);
    }

    private static void hangByAsking() {
        sentence = "30: it were ASKED on d (3)";
        LastLent x = under("sale;");
        tell(x, 1, "dies rope 5;");
        x.claim(ROPE, 0, 5, 10, true, 0);
        x.claim(WAGE, 0, 5, 10, true, 0);
        x.fund(0, 10);
        x.ask(1, 5);
        due("asleep, then asked: 10 become 5", x.hang(0, 9, 0, 0, 3), 5);
        due("asked already", x.hang(0, 9, 0, 1, 3), 0);
        x.ask(0, 10);
        due("asked tomorrow, then today", x.hang(0, 9, 0, 0, 3), 5);
        due("told(0, 6)", x.told(0, 6), 10);
        due("on its last day it lives anyhow", x.hang(1, 10, 0, 0, 3), 0);
        x.ask(0, NONE);
        due("on the next day it is too late", x.hang(1, 11, 0, 0, 3), 0);
        x.ask(0, 10);
        due("asked in time, then too late: 5 become 10", x.hang(1, 11, 0, 0, 3), 5);
    }

    private static void mostHangs() {
        sentence = "30: MOST HANGS on the CLAIM with the greatest (the least such); NONE: nothing hangs on any";
        LastLent x = under("first wage;");
        for (int what = 0; what < 4; what++) {
            due("no claims, what " + what, x.hang(0, 9, 0, NONE, what), NONE);
        }
        x.claim(ROPE, 0, 5, 10, true, 0);
        x.claim(WAGE, 0, 5, 10, true, 0);
        x.claim(WAGE, 0, 5, 10, true, 0);
        x.claim(ROPE, 0, 5, 10, true, 0);
        for (int what = 0; what < 4; what++) {
            due("no funds, what " + what, x.hang(0, 9, 1, NONE, what), NONE);
        }
        x.fund(0, 30);
        // The ropes have 5 each: on a wage hang 10, on a rope 5.
        due("two wages", x.hang(0, 9, 0, NONE, 0), 1);
        due("by a day, on the day", x.hang(0, 5, 0, NONE, 2), 1);
        due("by leave", x.hang(0, 9, 0, NONE, 1), NONE);
        due("by asking", x.hang(0, 9, 0, NONE, 3), NONE);
        x.fund(0, 40);
        due("there is enough", x.hang(0, 9, 0, NONE, 0), NONE);
        LastLent y = new LastLent();
        for (int c = 0; c < 14; c++) {
            y.claim(WAGE, 0, 5, c == 13 ? 2 : 1, true, 0);
        }
        y.fund(0, 14);
        // Of 15 wanted 14 are there: 13 parts are cut to 0 and the last one to 1, and 13 are over.
        due("on the last hangs nothing", y.hang(0, 9, 0, 13, 0), 0);
        due("on the first one, of the last", y.hang(0, 9, 0, NONE, 0), 0);
        due("on the first one", y.hang(0, 9, 0, 0, 0), 1);
    }

    // ---- promises 25 to 30

    private static LastLent ladenShip() {
        LastLent x = under("later;rides need ship cargo;rides harm cargo;leave rope;sale;dies pilot 9;");
        tell(x, 1, "later;behind wage;rides need ship cargo;rides harm cargo;leave rope;");
        x.voyage(10, 20);
        x.voyage(30, 40);
        x.claim(WAGE, 1, 5, 30, true, 0);
        x.claim(ROPE, 2, 15, 40, true, 0);
        x.claim(NEED, 3, 35, 50, true, 1);
        x.claim(HARM, 4, 16, 20, false, 6);
        x.claim(ROPE, 5, 35, 25, false, 0);
        x.claim(PILOT, 1, 31, 15, true, 0);
        int[] askedOn = {6, 15, 36, 16, 35, 33};
        for (int c = 0; c < 6; c++) {
            x.ask(c, askedOn[c]);
        }
        int[] sums = {70, 10, 20, 12, 5};
        for (int f = 0; f < 5; f++) {
            x.fund(f, sums[f]);
        }
        x.owner(0, 4);
        x.owner(1, 5);
        x.owner(2, 2);
        return x;
    }

    private static void whatWouldBeKeepsTheRest() {
        sentence = "25, 29, 30: what would be is what is so but for what is told";
        LastLent x = ladenShip();
        // Of the ship need 50 and pilot 15 of the later voyage, rope 5; harm has 12 and 5 of its cargoes.
        paidAre(x, 0, 50, 0, 0, 5, 50, 17, 0, 15);
        int[] askedOn = {6, 15, 36, 16, 35, 33};
        for (int way = 0; way < 2; way++) {
            for (int c = 0; c < 6; c++) {
                due("asked as it is", x.wake(0, 50, way, c, askedOn[c]), x.paid(0, 50, way, c));
                if (c != 5) {
                    due("asked for on d, too", x.hang(0, 50, way, c, 3), 0);
                }
                if (c != 1 && c != 4) {
                    due("a LEAVE that is not needed", x.hang(0, 50, way, c, 1), 0);
                }
            }
            for (int p = 0; p < 6; p++) {
                due("a wage behind all, for " + p, x.more(1, 50, way, p, 0, 60, 1, 0, 0), 0);
                due("all is lost, for " + p, x.more(1, 50, way, p, 0, 60, 1, 0, 100), -100 * x.has(1, 50, way, p));
            }
            due("wise for none", x.more(1, 50, way, NONE, 0, 60, 1, 0, 0), 0);
        }
        due("its leave gone, 5 go to the wage", x.hang(0, 50, 0, 1, 1), 5);
        // Then 90 are wanted of 70 by the later voyage: need 39 and 11 of cargo 0, pilot 11, and nothing for the rope.
        due("with leave: the pilot 4 less, the rope 5 less", x.hang(0, 50, 0, 4, 1), 9);
        due("the pilot dies: 15 go to the rope", x.hang(0, 50, 0, 5, 3), 15);
        paidAre(x, 0, 50, 0, 0, 5, 50, 17, 0, 15);
        due("count(0)", x.count(0), 2);
        due("count(1)", x.count(1), 6);
        due("count(4)", x.count(4), 117);
    }

    // ---- promises 31 and 32

    private static void imagesOfOtherShips() {
        sentence = "31, 32: VOYAGES with their days, CLAIMS, FUNDS, OWNERS";
        LastLent x = new LastLent();
        x.voyage(10, 20);
        for (int day : new int[] {5, 10, 25, 30}) {
            x.claim(WAGE, 1, day, 7, true, 1);
        }
        x.owner(1, 3);
        x.keep(0);
        x.voyage(30, 40);
        x.owner(1, 4);
        x.owner(2, 5);
        x.keep(1);
        x.goBack(0);
        due("it ends on 20", x.voyage(20, 21), NOT);
        due("it goes on from 21", x.voyage(21, 22), 1);
        due("of day 25", x.told(2, 7), 1);
        due("owner(1, 2)", x.owner(1, 2), 3);
        due("owner(2, 2)", x.owner(2, 2), 0);
        x.ask(0, 9);
        x.goBack(1);
        int[] voyages = {NONE, 0, 0, 1};
        for (int c = 0; c < 4; c++) {
            due("told(" + c + ", 7)", x.told(c, 7), voyages[c]);
        }
        due("told(0, 6)", x.told(0, 6), NONE);
        due("it ends on 40", x.voyage(40, 41), NOT);
        due("it goes on from 41", x.voyage(41, 42), 2);
        due("owner(1, 2)", x.owner(1, 2), 4);
        due("owner(2, 2)", x.owner(2, 2), 5);
        LastLent y = new LastLent();
        y.voyage(10, 20);
        y.claim(ROPE, 2, 5, 50, false, 3);
        y.keep(1);
        y.goBack(1);
        y.keep(0);
        y.goBack(0);
        toldAre(y, 0, ROPE, 2, 5, 50, 0, 3, NONE, NONE);
        due("it ends on 20", y.voyage(20, 20), NOT);
    }

    private static void images() {
        sentence = "31, 32: IMAGES 0, 1; UNKNOWN";
        LastLent x = new LastLent();
        for (int i : new int[] {-1, 2, LOW, HIGH}) {
            due("keep(" + i + ")", x.keep(i), UNKNOWN);
            due("goBack(" + i + ")", x.goBack(i), UNKNOWN);
        }
        sentence = "32: NOT: it was not kept";
        due("goBack(0)", x.goBack(0), NOT);
        due("goBack(1)", x.goBack(1), NOT);
        x.fund(0, 5);
        due("keep(1)", x.keep(1), 1);
        due("goBack(0)", x.goBack(0), NOT);
        due("goBack(1)", x.goBack(1), 1);
        x.fund(0, 6);
        due("keep(0)", x.keep(0), 1);
        x.fund(0, 7);
        sentence = "31, 32: each IMAGE by itself, as often as one likes";
        for (int time = 0; time < 2; time++) {
            due("goBack(0)", x.goBack(0), 1);
            due("count(4)", x.count(4), 6);
            due("goBack(1)", x.goBack(1), 1);
            due("count(4)", x.count(4), 5);
        }
        due("keep(0) anew", x.keep(0), 1);
        x.fund(0, 9);
        due("goBack(0)", x.goBack(0), 1);
        due("count(4)", x.count(4), 5);
        sentence = "31, 32: a full ship and an empty one";
        LastLent y = new LastLent();
        y.keep(0);
        for (int v = 0; v < 6; v++) {
            y.voyage(v, v);
        }
        for (int c = 0; c < 14; c++) {
            y.claim(c % 8, c % 6, c, 900 + c, c % 2 == 1, c % 8);
            y.ask(c, 100 + c);
        }
        for (int f = 0; f < 5; f++) {
            y.fund(f, 9995 + f);
        }
        for (int cargo = 0; cargo < 3; cargo++) {
            y.owner(cargo, 3 + cargo);
        }
        y.keep(1);
        y.goBack(0);
        for (int what = 0; what < 5; what++) {
            due("the empty one, count(" + what + ")", y.count(what), 0);
        }
        due("a claim is the first again", y.claim(DUES, 5, 999, 1, false, 0), 0);
        toldAre(y, 0, DUES, 5, 999, 1, 0, 0, NONE, NONE);
        due("a voyage is the first again", y.voyage(0, 0), 0);
        y.goBack(1);
        due("the full one, voyages", y.count(0), 6);
        for (int c = 0; c < 14; c++) {
            toldAre(y, c, c % 8, c % 6, c, 900 + c, c % 2, c % 8, 100 + c, Math.min(c, 5));
        }
        due("a fifteenth", y.claim(0, 0, 0, 1, true, 0), FULL);
        due("a seventh", y.voyage(6, 6), FULL);
        for (int f = 0; f < 5; f++) {
            due("fund " + f, y.fund(f, 0), 9995 + f);
        }
        for (int cargo = 0; cargo < 3; cargo++) {
            due("owner " + cargo, y.owner(cargo, 0), 3 + cargo);
        }
        sentence = "31, 32: (not LAWS)";
        LastLent z = new LastLent();
        z.keep(0);
        tell(z, 0, "costs 5;sale;");
        z.feed(3, 0L);
        z.goBack(0);
        due("rule(0, 3)", z.rule(0, 3), 5);
        due("count(2): THE TEXT stays", z.count(2), 3);
    }
}
