/** Claims that ride on one ship, under the laws of four lands. README.md says how to use it. */
public final class LastLent {
    public static final int NONE = -1, UNKNOWN = -1001, OUTSIDE = -1002, NOT = -1003, FULL = -1004;

    private static final int LANDS = 4, KINDS = 8, HOLDERS = 6, IMAGES = 2, WAYS = 2;
    private static final int VOYAGE_LIMIT = 6, CLAIM_LIMIT = 14, AHEAD_LIMIT = 12, TEXT_LIMIT = 240;
    private static final int LAST_DAY = 999, AMOUNT_LIMIT = 999, SUM_LIMIT = 9999;
    private static final int FUNDS = 5, CARGOES = 3, SHIP = 0, FREIGHT = 1, CARGO_0 = 2;
    private static final int WAGE = 0, MARSHALLED = 1;
    private static final int PARTS = 0, LATER_DAY = 1, SOONER_DAY = 2;

    private final Law[] laws = new Law[LANDS];
    private final LawText text = new LawText();
    private final Ship ship = new Ship();
    /** The ship as it would be, for all calls that ask what would be. */
    private final Ship supposed = new Ship();
    private final Ship[] images = new Ship[IMAGES];
    private final boolean[] kept = new boolean[IMAGES];
    private final PayOut payOut = new PayOut();
    private final int[] paidBefore = new int[CLAIM_LIMIT];
    private final int[] hadBefore = new int[HOLDERS];
    /** Read into while a law is told, so that a fault leaves the land's own law as it was. */
    private Law draft = new Law();

    public LastLent() {
        for (int land = 0; land < LANDS; land++) {
            laws[land] = new Law();
        }
        for (int i = 0; i < IMAGES; i++) {
            images[i] = new Ship();
        }
    }

    // ---- laws

    public int feed(int n, long bytes) {
        if (n < 1 || n > 8) {
            return OUTSIDE;
        }
        if (text.size + n > TEXT_LIMIT) {
            return FULL;
        }
        for (int i = n - 1; i >= 0; i--) {
            text.append((int) (bytes >>> (8 * i)) & 255);
        }
        return text.size;
    }

    public int law(int land) {
        if (!isLand(land)) {
            return UNKNOWN;
        }
        int clauses = text.readInto(draft);
        if (text.faultNumber != LawText.NO_FAULT) {
            return -10 - text.faultNumber;
        }
        draft.settle();
        Law before = laws[land];
        laws[land] = draft;
        draft = before;
        return clauses;
    }

    public int fault() {
        return text.faultPlace;
    }

    public int kind(int land, int k, int what) {
        if (!isLand(land) || !isKind(k)) {
            return UNKNOWN;
        }
        Law law = laws[land];
        switch (what) {
            case 0: return law.ranks[k];
            case 1: return law.rides[k];
            case 2: return bit(law.firsts, k) - bit(law.behinds, k);
            case 3: return law.dies[k];
            case 4: return bit(law.needLeave, k);
            case 5: return bit(law.ring, k);
            default: return OUTSIDE;
        }
    }

    public int rule(int land, int what) {
        if (!isLand(land)) {
            return UNKNOWN;
        }
        Law law = laws[land];
        switch (what) {
            case 0: return law.laterVoyages ? 1 : 0;
            case 1: return law.within;
            case 2: return law.sale ? 1 : 0;
            case 3: return law.costs;
            case 4: return law.aheads;
            case 5: return law.ring;
            default: return OUTSIDE;
        }
    }

    public int goes(int land, int a, int b) {
        if (!isLand(land) || !isKind(a) || !isKind(b)) {
            return UNKNOWN;
        }
        return bit(laws[land].aheadOf[a], b);
    }

    // ---- the ship

    public int voyage(int a, int b) {
        if (!isDay(a) || !isDay(b) || b < a) {
            return OUTSIDE;
        }
        if (a <= ship.lastEnd()) {
            return NOT;
        }
        return ship.addVoyage(a, b);
    }

    public int claim(int kind, int holder, int day, int amount, boolean leave, int cargoes) {
        if (!isKind(kind) || !isHolder(holder) || cargoes < 0 || cargoes >= 1 << CARGOES) {
            return UNKNOWN;
        }
        if (!isDay(day) || amount < 1 || amount > AMOUNT_LIMIT) {
            return OUTSIDE;
        }
        return ship.addClaim(kind, holder, day, amount, leave, cargoes);
    }

    public int ask(int c, int day) {
        if (!isClaim(c)) {
            return UNKNOWN;
        }
        if (day != NONE && !isDay(day)) {
            return OUTSIDE;
        }
        int before = ship.asked[c];
        ship.asked[c] = day;
        return before;
    }

    public int fund(int f, int v) {
        if (!isFund(f)) {
            return UNKNOWN;
        }
        if (v < 0 || v > SUM_LIMIT) {
            return OUTSIDE;
        }
        int before = ship.sums[f];
        ship.sums[f] = v;
        return before;
    }

    public int owner(int cargo, int holder) {
        if (!isCargo(cargo) || !isHolder(holder)) {
            return UNKNOWN;
        }
        int before = ship.owners[cargo];
        ship.owners[cargo] = holder;
        return before;
    }

    public int pass(int c, int holder) {
        if (!isClaim(c) || !isHolder(holder)) {
            return UNKNOWN;
        }
        int before = ship.holders[c];
        ship.holders[c] = holder;
        return before;
    }

    public int told(int c, int what) {
        if (!isClaim(c)) {
            return UNKNOWN;
        }
        switch (what) {
            case 0: return ship.kinds[c];
            case 1: return ship.holders[c];
            case 2: return ship.days[c];
            case 3: return ship.amounts[c];
            case 4: return bit(ship.leaves, c);
            case 5: return ship.cargoSets[c];
            case 6: return ship.asked[c];
            case 7: return ship.voyageOf(c);
            default: return OUTSIDE;
        }
    }

    public int count(int what) {
        switch (what) {
            case 0: return ship.voyages;
            case 1: return ship.claims;
            case 2: return text.size;
            case 3: return sumOf(ship.amounts, ship.claims);
            case 4: return sumOf(ship.sums, FUNDS);
            default: return OUTSIDE;
        }
    }

    // ---- who lives, who is ahead

    public int lives(int land, int d, int c) {
        if (!isLand(land) || !isClaim(c)) {
            return UNKNOWN;
        }
        if (!isDay(d)) {
            return OUTSIDE;
        }
        return ship.whyDead(laws[land], d, c);
    }

    public int last(int land, int c) {
        if (!isLand(land) || !isClaim(c)) {
            return UNKNOWN;
        }
        return ship.lastAlive(laws[land], c);
    }

    public int ahead(int land, int c, int e) {
        if (!isLand(land) || !isClaim(c) || !isClaim(e)) {
            return UNKNOWN;
        }
        return Integer.compare(ship.standing(laws[land], e), ship.standing(laws[land], c));
    }

    public int step(int land, int d, int f, int c) {
        if (!isLand(land) || !isFund(f) || !isClaim(c)) {
            return UNKNOWN;
        }
        if (!isDay(d)) {
            return OUTSIDE;
        }
        payOut.lineUp(laws[land], ship, d);
        return payOut.stepOf(f, c);
    }

    // ---- paid out

    public int paid(int land, int d, int way, int c) {
        if (!isLand(land) || !isClaim(c)) {
            return UNKNOWN;
        }
        if (!isDay(d) || !isWay(way)) {
            return OUTSIDE;
        }
        payOut.run(laws[land], ship, d, way);
        return payOut.paidTo(c);
    }

    public int left(int land, int d, int way, int f) {
        if (!isLand(land) || !isFund(f)) {
            return UNKNOWN;
        }
        if (!isDay(d) || !isWay(way)) {
            return OUTSIDE;
        }
        payOut.run(laws[land], ship, d, way);
        return payOut.rests[f];
    }

    public int has(int land, int d, int way, int h) {
        if (!isLand(land) || h != NONE && !isHolder(h)) {
            return UNKNOWN;
        }
        if (!isDay(d) || !isWay(way)) {
            return OUTSIDE;
        }
        payOut.run(laws[land], ship, d, way);
        return h == NONE ? payOut.paidInAll() : payOut.holding(ship, h);
    }

    public int order(int land, int d, int way, int i) {
        if (!isLand(land) || i < 0 || i >= FUNDS) {
            return UNKNOWN;
        }
        if (!isDay(d) || !isWay(way)) {
            return OUTSIDE;
        }
        payOut.run(laws[land], ship, d, way);
        return payOut.funds[i];
    }

    public int back(int land, int d, int way, int cargo, int what) {
        if (!isLand(land) || !isCargo(cargo)) {
            return UNKNOWN;
        }
        if (!isDay(d) || !isWay(way) || what < 0 || what > 1) {
            return OUTSIDE;
        }
        payOut.run(laws[land], ship, d, way);
        payOut.giveBack();
        return what == 0 ? payOut.backAsked[cargo] : payOut.backGiven[cargo];
    }

    // ---- what would be

    public int wake(int land, int d, int way, int c, int e) {
        if (!isLand(land) || !isClaim(c)) {
            return UNKNOWN;
        }
        if (!isDay(d) || !isWay(way) || !isDay(e)) {
            return OUTSIDE;
        }
        supposed.become(ship);
        supposed.asked[c] = e;
        payOut.run(laws[land], supposed, d, way);
        return payOut.paidTo(c);
    }

    public int best(int d, int way, int h, int what) {
        if (!isHolder(h)) {
            return UNKNOWN;
        }
        if (!isDay(d) || !isWay(way) || what < 0 || what > 1) {
            return OUTSIDE;
        }
        int bestLand = NONE;
        int most = NONE;
        for (int land = 0; land < LANDS; land++) {
            payOut.run(laws[land], ship, d, way);
            int holding = payOut.holding(ship, h);
            if (holding > most) {
                most = holding;
                bestLand = land;
            }
        }
        return what == 0 ? bestLand : most;
    }

    public int buy(int land, int d, int way, int h, int q, int what) {
        if (!isLand(land) || !isHolder(h)) {
            return UNKNOWN;
        }
        if (!isDay(d) || !isWay(way) || q < 1 || q > 200 || what < 0 || what > 1) {
            return OUTSIDE;
        }
        payOut.run(laws[land], ship, d, way);
        int bestClaim = NONE;
        int most = 0;
        for (int c = 0; c < ship.claims; c++) {
            int gain = payOut.paidTo(c) - ship.amounts[c] * q / 100;
            if (ship.holders[c] != h && gain > most) {
                most = gain;
                bestClaim = c;
            }
        }
        return what == 0 || bestClaim == NONE ? bestClaim : most;
    }

    public int clear(int land, int d, int way, int h, int what) {
        if (!isLand(land) || !isHolder(h)) {
            return UNKNOWN;
        }
        if (!isDay(d) || !isWay(way) || what < 0 || what > 1) {
            return OUTSIDE;
        }
        payOut.run(laws[land], ship, d, way);
        int now = payOut.holding(ship, h);
        int bestClaim = NONE;
        int most = 0;
        for (int c = 0; c < ship.claims; c++) {
            if (ship.holders[c] != h) {
                int gain = holdingWithout(land, d, way, h, c) - now - ship.amounts[c];
                if (gain > most) {
                    most = gain;
                    bestClaim = c;
                }
            }
        }
        return what == 0 || bestClaim == NONE ? bestClaim : most;
    }

    public int more(int land, int d, int way, int p, int h, int e, int w, int f, int c) {
        if (!isLand(land) || p != NONE && !isHolder(p) || !isHolder(h)) {
            return UNKNOWN;
        }
        if (!isDay(d) || !isWay(way) || !isDay(e) || e <= d || w < 1 || w > AMOUNT_LIMIT) {
            return OUTSIDE;
        }
        if (f < 0 || f > SUM_LIMIT || c < 0 || c > 100) {
            return OUTSIDE;
        }
        if (!canSailAgain(d, f)) {
            return NOT;
        }
        payOut.run(laws[land], ship, d, way);
        for (int holder = 0; holder < HOLDERS; holder++) {
            hadBefore[holder] = payOut.holding(ship, holder);
        }
        supposeVoyage(d, e, h, w, f);
        payOut.run(laws[land], supposed, e, way);
        return p == NONE ? wiseFor(c) : worthFor(p, c);
    }

    public int hang(int land, int d, int way, int c, int what) {
        if (!isLand(land) || c != NONE && !isClaim(c)) {
            return UNKNOWN;
        }
        if (!isDay(d) || !isWay(way) || what < 0 || what > 3) {
            return OUTSIDE;
        }
        payOut.run(laws[land], ship, d, way);
        for (int k = 0; k < ship.claims; k++) {
            paidBefore[k] = payOut.paidTo(k);
        }
        if (c != NONE) {
            return hangsOn(land, d, way, c, what);
        }
        int mostClaim = NONE;
        int most = 0;
        for (int k = 0; k < ship.claims; k++) {
            int change = hangsOn(land, d, way, k, what);
            if (change > most) {
                most = change;
                mostClaim = k;
            }
        }
        return mostClaim;
    }

    // ---- images

    public int keep(int i) {
        if (!isImage(i)) {
            return UNKNOWN;
        }
        images[i].become(ship);
        kept[i] = true;
        return 1;
    }

    public int goBack(int i) {
        if (!isImage(i)) {
            return UNKNOWN;
        }
        if (!kept[i]) {
            return NOT;
        }
        ship.become(images[i]);
        return 1;
    }

    // ---- what would be, inside

    private int holdingWithout(int land, int d, int way, int h, int c) {
        supposed.become(ship);
        supposed.takeAway(c);
        payOut.run(laws[land], supposed, d, way);
        return payOut.holding(supposed, h);
    }

    private boolean canSailAgain(int d, int freight) {
        return ship.lastEnd() <= d
            && ship.voyages < VOYAGE_LIMIT
            && ship.claims < CLAIM_LIMIT
            && ship.sums[FREIGHT] + freight <= SUM_LIMIT;
    }

    private void supposeVoyage(int d, int e, int h, int wage, int freight) {
        supposed.become(ship);
        supposed.addVoyage(d + 1, e);
        int c = supposed.addClaim(WAGE, h, e, wage, true, 0);
        if (c >= 0 && c < CLAIM_LIMIT) {
            supposed.asked[c] = e;
        }
        supposed.sums[FREIGHT] += freight;
    }

    private int worthFor(int p, int chance) {
        return payOut.holding(supposed, p) * (100 - chance) - 100 * hadBefore[p];
    }

    private int wiseFor(int chance) {
        int wise = 0;
        for (int p = 0; p < HOLDERS; p++) {
            if (worthFor(p, chance) > 0) {
                wise |= 1 << p;
            }
        }
        return wise;
    }

    /** How far what the others are paid goes away from paidBefore. */
    private int hangsOn(int land, int d, int way, int c, int what) {
        supposed.become(ship);
        switch (what) {
            case 0: supposed.takeAway(c); break;
            case 1: supposed.leaves ^= 1 << c; break;
            case 2: supposed.days[c] = Math.min(LAST_DAY, supposed.days[c] + 1); break;
            default: supposed.asked[c] = d; break;
        }
        payOut.run(laws[land], supposed, d, way);
        int change = 0;
        for (int k = 0; k < ship.claims; k++) {
            if (k != c) {
                change += Math.abs(payOut.paidTo(k) - paidBefore[k]);
            }
        }
        return change;
    }

    // ---- bounds

    private static boolean isLand(int land) {
        return land >= 0 && land < LANDS;
    }

    private static boolean isKind(int k) {
        return k >= 0 && k < KINDS;
    }

    private static boolean isHolder(int h) {
        return h >= 0 && h < HOLDERS;
    }

    private static boolean isFund(int f) {
        return f >= 0 && f < FUNDS;
    }

    private static boolean isCargo(int cargo) {
        return cargo >= 0 && cargo < CARGOES;
    }

    private static boolean isImage(int i) {
        return i >= 0 && i < IMAGES;
    }

    private static boolean isDay(int d) {
        return d >= 0 && d <= LAST_DAY;
    }

    private static boolean isWay(int way) {
        return way >= 0 && way < WAYS;
    }

    private boolean isClaim(int c) {
        return c >= 0 && c < ship.claims;
    }

    private static int bit(int set, int k) {
        return (set >> k) & 1;
    }

    private static int sumOf(int[] row, int n) {
        int sum = 0;
        for (int i = 0; i < n && i < row.length; i++) {
            sum += row[i];
        }
        return sum;
    }

    private static void copyRow(int[] from, int[] to) {
        System.arraycopy(from, 0, to, 0, Math.min(from.length, to.length));
    }

    /** What one land's text tells, and what follows from its 'ahead' clauses. */
    private static final class Law {
        /** By kind: bit 0 ship, 1 freight, 2 cargo. */
        final int[] rides = new int[KINDS];
        /** By kind, 0 for never. */
        final int[] dies = new int[KINDS];
        /** By kind: the set of those that it goes ahead of; by one step at first, by any after settle. */
        final int[] aheadOf = new int[KINDS];
        final int[] ranks = new int[KINDS];
        int firsts;
        int behinds;
        int needLeave;
        int ring;
        int aheads;
        int within;
        int costs;
        boolean laterVoyages;
        boolean sale;

        Law() {
            tellNothing();
        }

        void tellNothing() {
            for (int k = 0; k < KINDS; k++) {
                rides[k] = 1;
                dies[k] = 0;
                aheadOf[k] = 0;
                ranks[k] = 0;
            }
            firsts = 0;
            behinds = 0;
            needLeave = 0;
            ring = 0;
            aheads = 0;
            within = PARTS;
            costs = 0;
            laterVoyages = false;
            sale = false;
        }

        void settle() {
            followSteps();
            // No kind is told ahead of itself, so one that comes round to itself has another in its ring.
            for (int k = 0; k < KINDS; k++) {
                ring |= bit(aheadOf[k], k) << k;
            }
            // Ranks grow by one step a round, and no way without a ring has more steps than kinds.
            for (int round = 0; round < KINDS; round++) {
                raiseRanks();
            }
        }

        private void followSteps() {
            for (int through = 0; through < KINDS; through++) {
                for (int k = 0; k < KINDS; k++) {
                    if (bit(aheadOf[k], through) == 1) {
                        aheadOf[k] |= aheadOf[through];
                    }
                }
            }
        }

        private void raiseRanks() {
            for (int k = 0; k < KINDS; k++) {
                for (int j = 0; j < KINDS; j++) {
                    if (bit(aheadOf[j], k) == 1 && bit(aheadOf[k], j) == 0) {
                        ranks[k] = Math.max(ranks[k], ranks[j] + 1);
                    }
                }
            }
        }

        /** One number for all that decides who is ahead: the lesser is, and like ones are in one step. */
        int standingOf(int k, int voyage, int day) {
            int place = 1 - bit(firsts, k) + bit(behinds, k);
            int byVoyage = laterVoyages && place == 1 ? VOYAGE_LIMIT - 1 - voyage : 0;
            int byDay = within == LATER_DAY ? LAST_DAY - day : within == SOONER_DAY ? day : 0;
            return ((place * (VOYAGE_LIMIT + 1) + byVoyage) * KINDS + ranks[k]) * (LAST_DAY + 1) + byDay;
        }

        /** The set of funds for a claim of a kind that would ride on a set of cargoes. */
        int fundsFor(int k, int cargoSet) {
            int onCargoes = bit(rides[k], CARGO_0) == 1 ? cargoSet << CARGO_0 : 0;
            return rides[k] & 3 | onCargoes;
        }
    }

    /** THE TEXT, and its reader, which stops at the first fault. */
    private static final class LawText {
        static final int NO_FAULT = 0, CANNOT_STAND = 1, BAD_NUMBER = 2, TOLD_AGAIN = 3;
        private static final int END = 0, WORD = 1, NUMBER = 2, SIGN = 3;
        private static final int RIDES = 0, AHEAD = 1, FIRST = 2, BEHIND = 3, LATER = 4,
            WITHIN = 5, DIES = 6, LEAVE = 7, SALE = 8, COSTS = 9;
        /** Words stand in columns of this width, by their numbers; none fills its column. */
        private static final int WIDTH = 8;
        private static final String CLAUSE_WORDS =
            "rides   ahead   first   behind  later   within  dies    leave   sale    costs   ";
        private static final String KIND_WORDS =
            "wage    rope    pilot   saved   need    pledge  harm    dues    ";
        private static final String FUND_WORDS = "ship    freight cargo   ";
        private static final String WITHIN_WORDS = "parts   later   sooner  ";

        final int[] bytes = new int[TEXT_LIMIT];
        int size;
        int faultNumber = NO_FAULT;
        int faultPlace = NONE;
        /** The token that is looked at goes from start to the byte before place. */
        private int token;
        private int start;
        private int place;
        private int clausesTold;
        private int ridesTold;

        void append(int value) {
            if (size < TEXT_LIMIT) {
                bytes[size] = value;
                size++;
            }
        }

        /** Empties the text; how many clauses were read. */
        int readInto(Law law) {
            law.tellNothing();
            faultNumber = NO_FAULT;
            faultPlace = NONE;
            place = 0;
            clausesTold = 0;
            ridesTold = 0;
            int clauses = 0;
            nextToken();
            while (token != END && faultNumber == NO_FAULT && clauses < TEXT_LIMIT) {
                int clause = beginClause(law);
                if (clause != NONE && readBody(clause, law)) {
                    readClose();
                }
                clauses++;
                nextToken();
            }
            size = 0;
            return clauses;
        }

        /** The clause whose first word is looked at; NONE, with a fault, if it cannot begin there. */
        private int beginClause(Law law) {
            int clause = wordIn(CLAUSE_WORDS);
            if (clause == NONE) {
                refuse(CANNOT_STAND);
                return NONE;
            }
            if (isOneTooMany(clause, law)) {
                refuse(TOLD_AGAIN);
                return NONE;
            }
            clausesTold |= 1 << clause;
            return clause;
        }

        private boolean isOneTooMany(int clause, Law law) {
            switch (clause) {
                case LATER:
                case WITHIN:
                case SALE:
                case COSTS: return bit(clausesTold, clause) == 1;
                case AHEAD: return law.aheads >= AHEAD_LIMIT;
                default: return false;
            }
        }

        /** Whether all between a clause's first word and its ';' could be read. */
        private boolean readBody(int clause, Law law) {
            switch (clause) {
                case RIDES: return readRides(law);
                case AHEAD: return readAhead(law);
                case FIRST: return readFirst(law);
                case BEHIND: return readBehind(law);
                case LATER: law.laterVoyages = true; return true;
                case WITHIN: return readWithin(law);
                case DIES: return readDies(law);
                case LEAVE: return readLeave(law);
                case SALE: law.sale = true; return true;
                case COSTS: return readCosts(law);
                default: return false;
            }
        }

        private boolean readRides(Law law) {
            int k = readKind(ridesTold);
            if (k == NONE) {
                return false;
            }
            ridesTold |= 1 << k;
            law.rides[k] = 0;
            boolean goesOn = true;
            // There are three funds, so a fourth is one that was told.
            for (int n = 0; n < 4 && goesOn; n++) {
                goesOn = readFund(law, k) && isFundNext();
            }
            return faultNumber == NO_FAULT;
        }

        private boolean readFund(Law law, int k) {
            nextToken();
            int f = wordIn(FUND_WORDS);
            if (f == NONE) {
                return refuse(CANNOT_STAND);
            }
            if (bit(law.rides[k], f) == 1) {
                return refuse(TOLD_AGAIN);
            }
            law.rides[k] |= 1 << f;
            return true;
        }

        /** Looks one token further and comes back, as only the next token tells whether funds go on. */
        private boolean isFundNext() {
            int here = place;
            nextToken();
            boolean isFund = wordIn(FUND_WORDS) != NONE;
            place = here;
            return isFund;
        }

        private boolean readAhead(Law law) {
            int a = readKind(0);
            if (a == NONE) {
                return false;
            }
            int b = readKind(1 << a);
            if (b == NONE) {
                return false;
            }
            law.aheadOf[a] |= 1 << b;
            law.aheads++;
            return true;
        }

        private boolean readFirst(Law law) {
            int k = readKind(law.firsts | law.behinds);
            if (k == NONE) {
                return false;
            }
            law.firsts |= 1 << k;
            return true;
        }

        private boolean readBehind(Law law) {
            int k = readKind(law.firsts | law.behinds);
            if (k == NONE) {
                return false;
            }
            law.behinds |= 1 << k;
            return true;
        }

        private boolean readWithin(Law law) {
            nextToken();
            int within = wordIn(WITHIN_WORDS);
            if (within == NONE) {
                return refuse(CANNOT_STAND);
            }
            law.within = within;
            return true;
        }

        private boolean readDies(Law law) {
            int k = readKind(kindsThatDie(law));
            if (k == NONE) {
                return false;
            }
            int days = readNumber(1);
            if (days == NONE) {
                return false;
            }
            law.dies[k] = days;
            return true;
        }

        private static int kindsThatDie(Law law) {
            int set = 0;
            for (int k = 0; k < KINDS; k++) {
                if (law.dies[k] != 0) {
                    set |= 1 << k;
                }
            }
            return set;
        }

        private boolean readLeave(Law law) {
            int k = readKind(law.needLeave);
            if (k == NONE) {
                return false;
            }
            law.needLeave |= 1 << k;
            return true;
        }

        private boolean readCosts(Law law) {
            int costs = readNumber(0);
            if (costs == NONE) {
                return false;
            }
            law.costs = costs;
            return true;
        }

        private void readClose() {
            nextToken();
            if (token != SIGN || bytes[start] != ';') {
                refuse(CANNOT_STAND);
            }
        }

        /** The kind that stands next; NONE, with a fault, if none does or it is one of those told. */
        private int readKind(int toldSet) {
            nextToken();
            int k = wordIn(KIND_WORDS);
            if (k == NONE) {
                refuse(CANNOT_STAND);
                return NONE;
            }
            if (bit(toldSet, k) == 1) {
                refuse(TOLD_AGAIN);
                return NONE;
            }
            return k;
        }

        private int readNumber(int least) {
            nextToken();
            if (token != NUMBER) {
                refuse(CANNOT_STAND);
                return NONE;
            }
            int value = 0;
            for (int i = start; i < place && i < start + 3; i++) {
                value = value * 10 + bytes[i] - '0';
            }
            if (place - start > 3 || value < least) {
                refuse(BAD_NUMBER);
                return NONE;
            }
            return value;
        }

        /** A fault at the token that is looked at; false, for what could not be read. */
        private boolean refuse(int number) {
            faultNumber = number;
            faultPlace = start;
            return false;
        }

        private void nextToken() {
            while (place < size && bytes[place] == ' ') {
                place++;
            }
            start = place;
            if (place >= size) {
                token = END;
            } else if (isLetter(bytes[place])) {
                token = WORD;
                while (place < size && isLetter(bytes[place])) {
                    place++;
                }
            } else if (isFigure(bytes[place])) {
                token = NUMBER;
                while (place < size && isFigure(bytes[place])) {
                    place++;
                }
            } else {
                token = SIGN;
                place++;
            }
        }

        private static boolean isLetter(int value) {
            return value >= 'a' && value <= 'z';
        }

        private static boolean isFigure(int value) {
            return value >= '0' && value <= '9';
        }

        /** The number of the token among a table's words; NONE: it is none of them. */
        private int wordIn(String table) {
            if (token != WORD || place - start >= WIDTH) {
                return NONE;
            }
            for (int at = 0; at + WIDTH <= table.length(); at += WIDTH) {
                if (isWordAt(table, at)) {
                    return at / WIDTH;
                }
            }
            return NONE;
        }

        private boolean isWordAt(String table, int at) {
            int letters = place - start;
            for (int i = 0; i < letters; i++) {
                if (table.charAt(at + i) != bytes[start + i]) {
                    return false;
                }
            }
            return table.charAt(at + letters) == ' ';
        }
    }

    /** Voyages, claims, funds and owners: all that an image keeps. */
    private static final class Ship {
        int voyages;
        int claims;
        /** The set of claims with leave. */
        int leaves;
        final int[] begins = new int[VOYAGE_LIMIT];
        final int[] ends = new int[VOYAGE_LIMIT];
        final int[] kinds = new int[CLAIM_LIMIT];
        final int[] holders = new int[CLAIM_LIMIT];
        final int[] days = new int[CLAIM_LIMIT];
        final int[] amounts = new int[CLAIM_LIMIT];
        final int[] cargoSets = new int[CLAIM_LIMIT];
        final int[] asked = new int[CLAIM_LIMIT];
        final int[] sums = new int[FUNDS];
        final int[] owners = new int[CARGOES];

        void become(Ship other) {
            voyages = other.voyages;
            claims = other.claims;
            leaves = other.leaves;
            copyRow(other.begins, begins);
            copyRow(other.ends, ends);
            copyRow(other.kinds, kinds);
            copyRow(other.holders, holders);
            copyRow(other.days, days);
            copyRow(other.amounts, amounts);
            copyRow(other.cargoSets, cargoSets);
            copyRow(other.asked, asked);
            copyRow(other.sums, sums);
            copyRow(other.owners, owners);
        }

        int addVoyage(int a, int b) {
            if (voyages >= VOYAGE_LIMIT) {
                return FULL;
            }
            begins[voyages] = a;
            ends[voyages] = b;
            voyages++;
            return voyages - 1;
        }

        int addClaim(int kind, int holder, int day, int amount, boolean leave, int cargoSet) {
            if (claims >= CLAIM_LIMIT) {
                return FULL;
            }
            kinds[claims] = kind;
            holders[claims] = holder;
            days[claims] = day;
            amounts[claims] = amount;
            leaves = leave ? leaves | 1 << claims : leaves & ~(1 << claims);
            cargoSets[claims] = cargoSet;
            asked[claims] = NONE;
            claims++;
            return claims - 1;
        }

        /** A claim that wants nothing changes nothing for others, and the others keep their numbers. */
        void takeAway(int c) {
            amounts[c] = 0;
        }

        /** NONE, if there is no voyage. */
        int lastEnd() {
            return voyages > 0 ? ends[voyages - 1] : NONE;
        }

        int voyageOf(int c) {
            int latest = NONE;
            for (int v = 0; v < voyages; v++) {
                if (begins[v] <= days[c]) {
                    latest = v;
                }
            }
            return latest;
        }

        int standing(Law law, int c) {
            return law.standingOf(kinds[c], voyageOf(c), days[c]);
        }

        int whyDead(Law law, int d, int c) {
            if (days[c] > d) {
                return 1;
            }
            if (d > lastUnbarred(law, c)) {
                return 2;
            }
            if (law.sale && (asked[c] == NONE || asked[c] > d)) {
                return 3;
            }
            return lacksLeave(law, c) ? 4 : 0;
        }

        int lastAlive(Law law, int c) {
            if (lacksLeave(law, c) || law.sale && asked[c] == NONE) {
                return NONE;
            }
            int from = law.sale ? Math.max(days[c], asked[c]) : days[c];
            int to = lastUnbarred(law, c);
            return from <= to ? to : NONE;
        }

        /** The last day before 'dies' ends a claim, as it is asked for. */
        private int lastUnbarred(Law law, int c) {
            int term = law.dies[kinds[c]];
            int end = days[c] + term;
            boolean inTime = asked[c] != NONE && asked[c] <= end;
            return term == 0 || inTime ? LAST_DAY : Math.min(LAST_DAY, end);
        }

        private boolean lacksLeave(Law law, int c) {
            return bit(law.needLeave, kinds[c]) == 1 && bit(leaves, c) == 0;
        }
    }

    /** Pays the funds out to the claims; its rows are used again by every call. */
    private static final class PayOut {
        /** So many orders have five funds. */
        private static final int ORDERS = 120;
        private static final int ALL_FUNDS = (1 << FUNDS) - 1;

        /** The claims that live, those ahead first, like ones by their numbers. */
        private final int[] line = new int[CLAIM_LIMIT];
        private int lined;
        private int claims;
        /** By claim. */
        private final int[] standings = new int[CLAIM_LIMIT];
        private final int[] rideSets = new int[CLAIM_LIMIT];
        private final int[] amounts = new int[CLAIM_LIMIT];
        /** By place in the line. */
        private final int[] wants = new int[CLAIM_LIMIT];
        private final int[] gives = new int[CLAIM_LIMIT];
        /** By fund; costs are taken off already. */
        private final int[] sums = new int[FUNDS];
        final int[] rests = new int[FUNDS];
        /** The order of the funds. */
        final int[] funds = new int[FUNDS];
        private final int[] bestFunds = new int[FUNDS];
        /** Row i: what each claim has after i funds; so orders that begin alike share their rows. */
        private final int[][] paidAfter = new int[FUNDS + 1][CLAIM_LIMIT];
        private final int[] totalAfter = new int[FUNDS + 1];
        /** By cargo. */
        final int[] backAsked = new int[CARGOES];
        final int[] backGiven = new int[CARGOES];

        void run(Law law, Ship ship, int d, int way) {
            lineUp(law, ship, d);
            copyRow(ship.sums, sums);
            sums[SHIP] = Math.max(0, sums[SHIP] - law.costs);
            for (int i = 0; i < FUNDS; i++) {
                funds[i] = i;
            }
            payAllFrom(0);
            if (way == MARSHALLED) {
                marshal();
            }
        }

        void lineUp(Law law, Ship ship, int d) {
            lined = 0;
            claims = ship.claims;
            for (int c = 0; c < claims; c++) {
                amounts[c] = ship.amounts[c];
                rideSets[c] = law.fundsFor(ship.kinds[c], ship.cargoSets[c]);
                standings[c] = ship.standing(law, c);
                if (ship.whyDead(law, d, c) == 0) {
                    joinLine(c);
                }
            }
        }

        private void joinLine(int c) {
            int at = lined;
            while (at > 0 && standings[line[at - 1]] > standings[c]) {
                line[at] = line[at - 1];
                at--;
            }
            line[at] = c;
            lined++;
        }

        /** Steps are counted among those in line that ride on the fund. */
        int stepOf(int f, int c) {
            int step = NONE;
            int before = NONE;
            for (int i = 0; i < lined; i++) {
                if (bit(rideSets[line[i]], f) == 1) {
                    int standing = standings[line[i]];
                    if (standing != before) {
                        step++;
                        before = standing;
                    }
                    if (line[i] == c) {
                        return step;
                    }
                }
            }
            return NONE;
        }

        /** Goes through the orders, the least first, until none can pay more than the best one. */
        private void marshal() {
            int most = totalAfter[FUNDS];
            copyRow(funds, bestFunds);
            int bound = mostPayable();
            for (int n = 1; n < ORDERS && most < bound; n++) {
                payAllFrom(nextOrder());
                if (totalAfter[FUNDS] > most) {
                    most = totalAfter[FUNDS];
                    copyRow(funds, bestFunds);
                }
            }
            copyRow(bestFunds, funds);
            payAllFrom(0);
        }

        /** Whatever set of funds is emptied, no order pays more than that and what is wanted of the others. */
        private int mostPayable() {
            int least = wantedOf(ALL_FUNDS);
            for (int emptied = 1; emptied <= ALL_FUNDS; emptied++) {
                int payable = wantedOf(ALL_FUNDS & ~emptied);
                for (int f = 0; f < FUNDS; f++) {
                    payable += sums[f] * bit(emptied, f);
                }
                least = Math.min(least, payable);
            }
            return least;
        }

        private int wantedOf(int fundSet) {
            int wanted = 0;
            for (int i = 0; i < lined; i++) {
                if ((rideSets[line[i]] & fundSet) != 0) {
                    wanted += amounts[line[i]];
                }
            }
            return wanted;
        }

        /** Makes the next greater order; the first place that it changed (FUNDS: there is none). */
        private int nextOrder() {
            int turn = FUNDS - 2;
            while (turn >= 0 && funds[turn] > funds[turn + 1]) {
                turn--;
            }
            if (turn < 0) {
                return FUNDS;
            }
            int other = FUNDS - 1;
            while (other > turn + 1 && funds[other] < funds[turn]) {
                other--;
            }
            swapFunds(turn, other);
            for (int i = turn + 1, j = FUNDS - 1; i < j; i++, j--) {
                swapFunds(i, j);
            }
            return turn;
        }

        private void swapFunds(int i, int j) {
            int held = funds[i];
            funds[i] = funds[j];
            funds[j] = held;
        }

        private void payAllFrom(int first) {
            for (int i = first; i < FUNDS; i++) {
                copyRow(paidAfter[i], paidAfter[i + 1]);
                totalAfter[i + 1] = totalAfter[i] + payFund(funds[i], paidAfter[i + 1]);
            }
        }

        /** Pays one fund by steps, on top of what was paid; what it gave. */
        private int payFund(int f, int[] paid) {
            int rest = sums[f];
            int from = 0;
            while (from < lined && rest > 0) {
                int to = from + 1;
                while (to < lined && standings[line[to]] == standings[line[from]]) {
                    to++;
                }
                for (int i = from; i < to; i++) {
                    int c = line[i];
                    wants[i] = bit(rideSets[c], f) == 1 ? amounts[c] - paid[c] : 0;
                }
                rest = share(rest, wants, gives, from, to);
                for (int i = from; i < to; i++) {
                    paid[line[i]] += gives[i];
                }
                from = to;
            }
            rests[f] = rest;
            return sums[f] - rest;
        }

        /** Shares a fund among those of one step, from .. to - 1, of whom some may want 0; what is left. */
        private static int share(int fund, int[] wants, int[] gives, int from, int to) {
            int wanted = 0;
            for (int i = from; i < to; i++) {
                wanted += wants[i];
            }
            if (wanted <= fund) {
                for (int i = from; i < to; i++) {
                    gives[i] = wants[i];
                }
                return fund - wanted;
            }
            int over = fund;
            for (int i = from; i < to && wanted > 0; i++) {
                gives[i] = fund * wants[i] / wanted;
                over -= gives[i];
            }
            for (int i = from; i < to && over > 0; i++) {
                if (wants[i] > 0) {
                    gives[i]++;
                    over--;
                }
            }
            return 0;
        }

        int paidTo(int c) {
            return c >= 0 && c < CLAIM_LIMIT ? paidAfter[FUNDS][c] : 0;
        }

        int paidInAll() {
            return totalAfter[FUNDS];
        }

        /** What a holder has by claims and by cargoes of its own. */
        int holding(Ship ship, int h) {
            int sum = 0;
            for (int c = 0; c < claims; c++) {
                if (ship.holders[c] == h) {
                    sum += paidAfter[FUNDS][c];
                }
            }
            for (int cargo = 0; cargo < CARGOES; cargo++) {
                if (ship.owners[cargo] == h) {
                    sum += rests[CARGO_0 + cargo];
                }
            }
            return sum;
        }

        void giveBack() {
            for (int i = 0; i < FUNDS; i++) {
                if (funds[i] >= CARGO_0) {
                    backAsked[funds[i] - CARGO_0] = paidForShip(paidAfter[i], paidAfter[i + 1]);
                }
            }
            share(rests[SHIP], backAsked, backGiven, 0, CARGOES);
        }

        private int paidForShip(int[] before, int[] after) {
            int sum = 0;
            for (int c = 0; c < claims; c++) {
                if (bit(rideSets[c], SHIP) == 1) {
                    sum += after[c] - before[c];
                }
            }
            return sum;
        }
    }
}
