import java.nio.charset.StandardCharsets;
import java.util.ArrayList;
import java.util.Arrays;
import java.util.List;
import java.util.Random;
import java.util.regex.Matcher;
import java.util.regex.Pattern;

/**
 * Runs of calls whose answers are compared with a second, plain telling of the document: another
 * reader of texts, steps found by asking every pair, all orders by recursion. The runs are the same every time.
 */
public final class LastLentAgainstModel {
    private static final int NONE = -1, UNKNOWN = -1001, OUTSIDE = -1002, NOT = -1003, FULL = -1004;
    private static final List<String> KINDS =
        List.of("wage", "rope", "pilot", "saved", "need", "pledge", "harm", "dues");
    private static final List<String> FUNDS = List.of("ship", "freight", "cargo");

    static final class MLaw {
        final List<int[]> aheads = new ArrayList<>();
        final List<List<Integer>> rides = new ArrayList<>();
        final int[] place = new int[8];
        final int[] dies = new int[8];
        final boolean[] leave = new boolean[8];
        boolean later;
        boolean sale;
        String within = "parts";
        int costs;
        int clauses;
        int fault;
        int faultAt = NONE;

        MLaw() {
            for (int k = 0; k < 8; k++) {
                rides.add(List.of(0));
            }
        }

        boolean goes(int a, int b) {
            return goes(a, b, 8);
        }

        private boolean goes(int a, int b, int steps) {
            for (int[] pair : aheads) {
                if (pair[0] == a && (pair[1] == b || steps > 1 && goes(pair[1], b, steps - 1))) {
                    return true;
                }
            }
            return false;
        }

        boolean alike(int a, int b) {
            return a == b || goes(a, b) && goes(b, a);
        }

        int rank(int k) {
            int most = 0;
            for (int[] pair : aheads) {
                if (alike(pair[1], k) && !alike(pair[0], k)) {
                    most = Math.max(most, 1 + rank(pair[0]));
                }
            }
            return most;
        }

        boolean inRing(int k) {
            for (int other = 0; other < 8; other++) {
                if (other != k && alike(other, k)) {
                    return true;
                }
            }
            return false;
        }

        int ring() {
            int set = 0;
            for (int k = 0; k < 8; k++) {
                set |= inRing(k) ? 1 << k : 0;
            }
            return set;
        }
    }

    /** Token by token; 'N' stands for a number, 'END' for the end, as no token of a text is like these. */
    static MLaw read(String text) {
        MLaw law = new MLaw();
        Matcher tokens = Pattern.compile("[a-z]+|[0-9]+|[^ ]").matcher(text);
        List<String> clause = new ArrayList<>();
        boolean[] ridesTold = new boolean[8];
        List<String> onceTold = new ArrayList<>();
        while (true) {
            boolean found = tokens.find();
            String token = found ? tokens.group() : "END";
            int at = found ? tokens.start() : text.length();
            String form = token.matches("[0-9]+") ? "N" : token.equals("N") ? "?" : token;
            if (!mayStand(clause, form)) {
                return faulty(law, 1, at);
            }
            if (form.equals("END")) {
                return law;
            }
            if (form.equals("N")) {
                boolean low = clause.get(0).equals("dies") && token.matches("0+");
                if (token.length() > 3 || low) {
                    return faulty(law, 2, at);
                }
            }
            if (toldAgain(law, clause, token, ridesTold, onceTold)) {
                return faulty(law, 3, at);
            }
            clause.add(token);
            if (token.equals(";")) {
                take(law, clause, ridesTold, onceTold);
                clause.clear();
            }
        }
    }

    private static MLaw faulty(MLaw law, int number, int at) {
        law.fault = number;
        law.faultAt = at;
        return law;
    }

    private static boolean mayStand(List<String> clause, String form) {
        int n = clause.size();
        if (n == 0) {
            return List.of("rides", "ahead", "first", "behind", "later", "within", "dies", "leave", "sale", "costs", "END")
                .contains(form);
        }
        boolean close = form.equals(";");
        switch (clause.get(0)) {
            case "rides": return n == 1 ? KINDS.contains(form) : FUNDS.contains(form) || n > 2 && close;
            case "ahead": return n < 3 ? KINDS.contains(form) : close;
            case "first":
            case "behind":
            case "leave": return n < 2 ? KINDS.contains(form) : close;
            case "within": return n < 2 ? List.of("later", "sooner", "parts").contains(form) : close;
            case "dies": return n < 2 ? KINDS.contains(form) : n < 3 ? form.equals("N") : close;
            case "costs": return n < 2 ? form.equals("N") : close;
            default: return close;
        }
    }

    private static boolean toldAgain(MLaw law, List<String> clause, String token, boolean[] ridesTold, List<String> once) {
        int n = clause.size();
        int k = KINDS.indexOf(token);
        if (n == 0) {
            return once.contains(token) || token.equals("ahead") && law.aheads.size() == 12;
        }
        switch (clause.get(0)) {
            case "rides": return n == 1 ? ridesTold[k] : clause.contains(token);
            case "ahead": return n == 2 && clause.get(1).equals(token);
            case "first":
            case "behind": return n == 1 && law.place[k] != 0;
            case "dies": return n == 1 && law.dies[k] != 0;
            case "leave": return n == 1 && law.leave[k];
            default: return false;
        }
    }

    private static void take(MLaw law, List<String> clause, boolean[] ridesTold, List<String> once) {
        law.clauses++;
        int k = clause.size() > 1 ? KINDS.indexOf(clause.get(1)) : NONE;
        switch (clause.get(0)) {
            case "rides":
                ridesTold[k] = true;
                List<Integer> on = new ArrayList<>();
                for (String fund : clause.subList(2, clause.size() - 1)) {
                    on.add(FUNDS.indexOf(fund));
                }
                law.rides.set(k, on);
                break;
            case "ahead": law.aheads.add(new int[] {k, KINDS.indexOf(clause.get(2))}); break;
            case "first": law.place[k] = 1; break;
            case "behind": law.place[k] = -1; break;
            case "later": law.later = true; once.add("later"); break;
            case "within": law.within = clause.get(1); once.add("within"); break;
            case "dies": law.dies[k] = Integer.parseInt(clause.get(2)); break;
            case "leave": law.leave[k] = true; break;
            case "sale": law.sale = true; once.add("sale"); break;
            default: law.costs = Integer.parseInt(clause.get(1)); once.add("costs"); break;
        }
    }

    static final class MClaim {
        int kind, holder, day, amount, cargoes, asked = NONE;
        boolean leave;

        MClaim copy() {
            MClaim c = new MClaim();
            c.kind = kind;
            c.holder = holder;
            c.day = day;
            c.amount = amount;
            c.cargoes = cargoes;
            c.asked = asked;
            c.leave = leave;
            return c;
        }
    }

    static final class Outcome {
        final List<Integer> order = new ArrayList<>();
        int[] paid;
        final int[] left = new int[5];
        final int[] asks = new int[3];

        int all() {
            return Arrays.stream(paid).sum();
        }
    }

    static final class MShip {
        final List<int[]> voyages = new ArrayList<>();
        final List<MClaim> claims = new ArrayList<>();
        final int[] sums = new int[5];
        final int[] owners = new int[3];

        MShip copy() {
            MShip s = new MShip();
            s.voyages.addAll(voyages);
            for (MClaim c : claims) {
                s.claims.add(c.copy());
            }
            System.arraycopy(sums, 0, s.sums, 0, 5);
            System.arraycopy(owners, 0, s.owners, 0, 3);
            return s;
        }

        int voyageOf(MClaim c) {
            int latest = NONE;
            for (int v = 0; v < voyages.size(); v++) {
                latest = voyages.get(v)[0] <= c.day ? v : latest;
            }
            return latest;
        }

        int why(MLaw law, int d, MClaim c) {
            if (c.day > d) {
                return 1;
            }
            int n = law.dies[c.kind];
            boolean awake = c.asked != NONE;
            if (n > 0 && c.day + n < d && !(awake && c.asked <= c.day + n)) {
                return 2;
            }
            if (law.sale && !(awake && c.asked <= d)) {
                return 3;
            }
            return law.leave[c.kind] && !c.leave ? 4 : 0;
        }

        boolean isAhead(MLaw law, MClaim a, MClaim b) {
            int pa = law.place[a.kind];
            int pb = law.place[b.kind];
            if ((pa == 1) != (pb == 1)) {
                return pa == 1;
            }
            if ((pa == -1) != (pb == -1)) {
                return pb == -1;
            }
            if (law.later && pa == 0 && pb == 0 && voyageOf(a) != voyageOf(b)) {
                return voyageOf(a) > voyageOf(b);
            }
            if (law.rank(a.kind) != law.rank(b.kind)) {
                return law.rank(a.kind) < law.rank(b.kind);
            }
            return law.within.equals("later") && a.day > b.day || law.within.equals("sooner") && a.day < b.day;
        }

        boolean rides(MLaw law, MClaim c, int f) {
            List<Integer> on = law.rides.get(c.kind);
            return f < 2 ? on.contains(f) : on.contains(2) && (c.cargoes >> (f - 2) & 1) == 1;
        }

        /** The steps of those numbered, each found as those whom none of the rest is ahead of. */
        List<List<Integer>> steps(MLaw law, List<Integer> members) {
            List<Integer> rest = new ArrayList<>(members);
            List<List<Integer>> steps = new ArrayList<>();
            while (!rest.isEmpty()) {
                List<Integer> step = new ArrayList<>();
                for (int a : rest) {
                    boolean behind = false;
                    for (int b : rest) {
                        behind |= isAhead(law, claims.get(b), claims.get(a));
                    }
                    if (!behind) {
                        step.add(a);
                    }
                }
                rest.removeAll(step);
                steps.add(step);
            }
            return steps;
        }

        Outcome payIn(MLaw law, List<Integer> order, List<List<List<Integer>>> steps) {
            Outcome o = new Outcome();
            o.order.addAll(order);
            o.paid = new int[claims.size()];
            System.arraycopy(sums, 0, o.left, 0, 5);
            o.left[0] -= Math.min(o.left[0], law.costs);
            for (int f : order) {
                for (List<Integer> step : steps.get(f)) {
                    List<Integer> in = new ArrayList<>();
                    for (int c : step) {
                        if (o.paid[c] < claims.get(c).amount) {
                            in.add(c);
                        }
                    }
                    int[] wants = new int[in.size()];
                    for (int i = 0; i < wants.length; i++) {
                        wants[i] = claims.get(in.get(i)).amount - o.paid[in.get(i)];
                    }
                    int[] gives = share(o.left[f], wants);
                    for (int i = 0; i < wants.length; i++) {
                        int c = in.get(i);
                        o.paid[c] += gives[i];
                        o.left[f] -= gives[i];
                        if (f >= 2 && rides(law, claims.get(c), 0)) {
                            o.asks[f - 2] += gives[i];
                        }
                    }
                }
            }
            return o;
        }

        static int[] share(int left, int[] wants) {
            int all = Arrays.stream(wants).sum();
            int[] gives = wants.clone();
            if (all <= left) {
                return gives;
            }
            int over = left;
            for (int i = 0; i < wants.length; i++) {
                gives[i] = (int) ((long) left * wants[i] / all);
                over -= gives[i];
            }
            for (int i = 0; over > 0; i = (i + 1) % wants.length) {
                gives[i]++;
                over--;
            }
            return gives;
        }

        Outcome pay(MLaw law, int d, int way) {
            List<List<List<Integer>>> steps = new ArrayList<>();
            for (int f = 0; f < 5; f++) {
                steps.add(steps(law, members(law, d, f)));
            }
            if (way == 0) {
                return payIn(law, List.of(0, 1, 2, 3, 4), steps);
            }
            List<List<Integer>> orders = new ArrayList<>();
            allOrders(new ArrayList<>(), orders);
            Outcome best = null;
            for (List<Integer> order : orders) {
                Outcome o = payIn(law, order, steps);
                if (best == null || o.all() > best.all()) {
                    best = o;
                }
            }
            return best;
        }

        List<Integer> members(MLaw law, int d, int f) {
            List<Integer> members = new ArrayList<>();
            for (int c = 0; c < claims.size(); c++) {
                if (why(law, d, claims.get(c)) == 0 && rides(law, claims.get(c), f)) {
                    members.add(c);
                }
            }
            return members;
        }

        private static void allOrders(List<Integer> begun, List<List<Integer>> all) {
            if (begun.size() == 5) {
                all.add(new ArrayList<>(begun));
            }
            for (int f = 0; f < 5; f++) {
                if (!begun.contains(f)) {
                    begun.add(f);
                    allOrders(begun, all);
                    begun.remove(begun.size() - 1);
                }
            }
        }

        int has(Outcome o, int h) {
            int sum = 0;
            for (int c = 0; c < claims.size(); c++) {
                sum += claims.get(c).holder == h ? o.paid[c] : 0;
            }
            for (int cargo = 0; cargo < 3; cargo++) {
                sum += owners[cargo] == h ? o.left[2 + cargo] : 0;
            }
            return sum;
        }
    }

    static final class Model {
        final MLaw[] laws = {new MLaw(), new MLaw(), new MLaw(), new MLaw()};
        final MShip[] images = new MShip[2];
        MShip ship = new MShip();
        StringBuilder text = new StringBuilder();
        int fault = NONE;

        static boolean in(int v, int low, int high) {
            return low <= v && v <= high;
        }

        boolean isClaim(int c) {
            return in(c, 0, ship.claims.size() - 1);
        }

        int feed(int n, long bytes) {
            if (!in(n, 1, 8)) {
                return OUTSIDE;
            }
            if (text.length() + n > 240) {
                return FULL;
            }
            String hex = String.format("%016x", bytes);
            for (int i = 8 - n; i < 8; i++) {
                text.append((char) Integer.parseInt(hex.substring(2 * i, 2 * i + 2), 16));
            }
            return text.length();
        }

        int law(int land) {
            if (!in(land, 0, 3)) {
                return UNKNOWN;
            }
            MLaw law = read(text.toString());
            text = new StringBuilder();
            fault = law.faultAt;
            if (law.fault != 0) {
                return -10 - law.fault;
            }
            laws[land] = law;
            return law.clauses;
        }

        int kind(int land, int k, int what) {
            if (!in(land, 0, 3) || !in(k, 0, 7)) {
                return UNKNOWN;
            }
            MLaw law = laws[land];
            int rides = 0;
            for (int f : law.rides.get(k)) {
                rides += 1 << f;
            }
            int[] all = {law.rank(k), rides, law.place[k], law.dies[k], law.leave[k] ? 1 : 0, law.inRing(k) ? 1 : 0};
            return in(what, 0, 5) ? all[what] : OUTSIDE;
        }

        int rule(int land, int what) {
            if (!in(land, 0, 3)) {
                return UNKNOWN;
            }
            MLaw law = laws[land];
            int within = List.of("parts", "later", "sooner").indexOf(law.within);
            int[] all = {law.later ? 1 : 0, within, law.sale ? 1 : 0, law.costs, law.aheads.size(), law.ring()};
            return in(what, 0, 5) ? all[what] : OUTSIDE;
        }

        int goes(int land, int a, int b) {
            if (!in(land, 0, 3) || !in(a, 0, 7) || !in(b, 0, 7)) {
                return UNKNOWN;
            }
            return laws[land].goes(a, b) ? 1 : 0;
        }

        int voyage(int a, int b) {
            if (!in(a, 0, 999) || !in(b, 0, 999) || b < a) {
                return OUTSIDE;
            }
            int n = ship.voyages.size();
            if (n > 0 && a <= ship.voyages.get(n - 1)[1]) {
                return NOT;
            }
            if (n == 6) {
                return FULL;
            }
            ship.voyages.add(new int[] {a, b});
            return n;
        }

        int claim(int kind, int holder, int day, int amount, boolean leave, int cargoes) {
            if (!in(kind, 0, 7) || !in(holder, 0, 5) || !in(cargoes, 0, 7)) {
                return UNKNOWN;
            }
            if (!in(day, 0, 999) || !in(amount, 1, 999)) {
                return OUTSIDE;
            }
            if (ship.claims.size() == 14) {
                return FULL;
            }
            MClaim c = new MClaim();
            c.kind = kind;
            c.holder = holder;
            c.day = day;
            c.amount = amount;
            c.leave = leave;
            c.cargoes = cargoes;
            ship.claims.add(c);
            return ship.claims.size() - 1;
        }

        int ask(int c, int day) {
            if (!isClaim(c)) {
                return UNKNOWN;
            }
            if (!in(day, -1, 999)) {
                return OUTSIDE;
            }
            int was = ship.claims.get(c).asked;
            ship.claims.get(c).asked = day;
            return was;
        }

        int fund(int f, int v) {
            if (!in(f, 0, 4)) {
                return UNKNOWN;
            }
            if (!in(v, 0, 9999)) {
                return OUTSIDE;
            }
            int was = ship.sums[f];
            ship.sums[f] = v;
            return was;
        }

        int owner(int cargo, int holder) {
            if (!in(cargo, 0, 2) || !in(holder, 0, 5)) {
                return UNKNOWN;
            }
            int was = ship.owners[cargo];
            ship.owners[cargo] = holder;
            return was;
        }

        int pass(int c, int holder) {
            if (!isClaim(c) || !in(holder, 0, 5)) {
                return UNKNOWN;
            }
            int was = ship.claims.get(c).holder;
            ship.claims.get(c).holder = holder;
            return was;
        }

        int told(int c, int what) {
            if (!isClaim(c)) {
                return UNKNOWN;
            }
            MClaim m = ship.claims.get(c);
            int[] all = {m.kind, m.holder, m.day, m.amount, m.leave ? 1 : 0, m.cargoes, m.asked, ship.voyageOf(m)};
            return in(what, 0, 7) ? all[what] : OUTSIDE;
        }

        int count(int what) {
            int amounts = ship.claims.stream().mapToInt(c -> c.amount).sum();
            int[] all = {ship.voyages.size(), ship.claims.size(), text.length(), amounts, Arrays.stream(ship.sums).sum()};
            return in(what, 0, 4) ? all[what] : OUTSIDE;
        }

        int lives(int land, int d, int c) {
            if (!in(land, 0, 3) || !isClaim(c)) {
                return UNKNOWN;
            }
            return in(d, 0, 999) ? ship.why(laws[land], d, ship.claims.get(c)) : OUTSIDE;
        }

        int last(int land, int c) {
            if (!in(land, 0, 3) || !isClaim(c)) {
                return UNKNOWN;
            }
            for (int d = 999; d >= 0; d--) {
                if (lives(land, d, c) == 0) {
                    return d;
                }
            }
            return NONE;
        }

        int ahead(int land, int c, int e) {
            if (!in(land, 0, 3) || !isClaim(c) || !isClaim(e)) {
                return UNKNOWN;
            }
            MClaim a = ship.claims.get(c);
            MClaim b = ship.claims.get(e);
            return ship.isAhead(laws[land], a, b) ? 1 : ship.isAhead(laws[land], b, a) ? -1 : 0;
        }

        int step(int land, int d, int f, int c) {
            if (!in(land, 0, 3) || !in(f, 0, 4) || !isClaim(c)) {
                return UNKNOWN;
            }
            if (!in(d, 0, 999)) {
                return OUTSIDE;
            }
            List<List<Integer>> steps = ship.steps(laws[land], ship.members(laws[land], d, f));
            for (int i = 0; i < steps.size(); i++) {
                if (steps.get(i).contains(c)) {
                    return i;
                }
            }
            return NONE;
        }

        boolean dayWay(int d, int way) {
            return in(d, 0, 999) && in(way, 0, 1);
        }

        int paid(int land, int d, int way, int c) {
            if (!in(land, 0, 3) || !isClaim(c)) {
                return UNKNOWN;
            }
            return dayWay(d, way) ? ship.pay(laws[land], d, way).paid[c] : OUTSIDE;
        }

        int left(int land, int d, int way, int f) {
            if (!in(land, 0, 3) || !in(f, 0, 4)) {
                return UNKNOWN;
            }
            return dayWay(d, way) ? ship.pay(laws[land], d, way).left[f] : OUTSIDE;
        }

        int has(int land, int d, int way, int h) {
            if (!in(land, 0, 3) || !in(h, -1, 5)) {
                return UNKNOWN;
            }
            if (!dayWay(d, way)) {
                return OUTSIDE;
            }
            Outcome o = ship.pay(laws[land], d, way);
            return h == NONE ? o.all() : ship.has(o, h);
        }

        int order(int land, int d, int way, int i) {
            if (!in(land, 0, 3) || !in(i, 0, 4)) {
                return UNKNOWN;
            }
            return dayWay(d, way) ? ship.pay(laws[land], d, way).order.get(i) : OUTSIDE;
        }

        int back(int land, int d, int way, int cargo, int what) {
            if (!in(land, 0, 3) || !in(cargo, 0, 2)) {
                return UNKNOWN;
            }
            if (!dayWay(d, way) || !in(what, 0, 1)) {
                return OUTSIDE;
            }
            Outcome o = ship.pay(laws[land], d, way);
            if (what == 0 || o.asks[cargo] == 0) {
                return o.asks[cargo];
            }
            int[] wants = Arrays.stream(o.asks).filter(a -> a > 0).toArray();
            int at = 0;
            for (int other = 0; other < cargo; other++) {
                at += o.asks[other] > 0 ? 1 : 0;
            }
            return MShip.share(o.left[0], wants)[at];
        }

        int wake(int land, int d, int way, int c, int e) {
            if (!in(land, 0, 3) || !isClaim(c)) {
                return UNKNOWN;
            }
            if (!dayWay(d, way) || !in(e, 0, 999)) {
                return OUTSIDE;
            }
            MShip woken = ship.copy();
            woken.claims.get(c).asked = e;
            return woken.pay(laws[land], d, way).paid[c];
        }

        int best(int d, int way, int h, int what) {
            if (!in(h, 0, 5)) {
                return UNKNOWN;
            }
            if (!dayWay(d, way) || !in(what, 0, 1)) {
                return OUTSIDE;
            }
            int bestLand = 0;
            for (int land = 1; land < 4; land++) {
                bestLand = has(land, d, way, h) > has(bestLand, d, way, h) ? land : bestLand;
            }
            return what == 0 ? bestLand : has(bestLand, d, way, h);
        }

        private int bestOf(int[] gains, int what) {
            int at = NONE;
            for (int c = 0; c < gains.length; c++) {
                if (gains[c] > 0 && (at == NONE || gains[c] > gains[at])) {
                    at = c;
                }
            }
            return at == NONE || what == 0 ? at : gains[at];
        }

        int buy(int land, int d, int way, int h, int q, int what) {
            if (!in(land, 0, 3) || !in(h, 0, 5)) {
                return UNKNOWN;
            }
            if (!dayWay(d, way) || !in(q, 1, 200) || !in(what, 0, 1)) {
                return OUTSIDE;
            }
            Outcome o = ship.pay(laws[land], d, way);
            int[] gains = new int[o.paid.length];
            for (int c = 0; c < gains.length; c++) {
                MClaim m = ship.claims.get(c);
                gains[c] = m.holder == h ? 0 : o.paid[c] - m.amount * q / 100;
            }
            return bestOf(gains, what);
        }

        int clear(int land, int d, int way, int h, int what) {
            if (!in(land, 0, 3) || !in(h, 0, 5)) {
                return UNKNOWN;
            }
            if (!dayWay(d, way) || !in(what, 0, 1)) {
                return OUTSIDE;
            }
            int now = has(land, d, way, h);
            int[] gains = new int[ship.claims.size()];
            for (int c = 0; c < gains.length; c++) {
                MShip without = ship.copy();
                MClaim gone = without.claims.remove(c);
                if (gone.holder != h) {
                    gains[c] = without.has(without.pay(laws[land], d, way), h) - now - gone.amount;
                }
            }
            return bestOf(gains, what);
        }

        int more(int land, int d, int way, int p, int h, int e, int w, int f, int c) {
            if (!in(land, 0, 3) || !in(p, -1, 5) || !in(h, 0, 5)) {
                return UNKNOWN;
            }
            if (!dayWay(d, way) || !in(e, d + 1, 999) || !in(w, 1, 999) || !in(f, 0, 9999) || !in(c, 0, 100)) {
                return OUTSIDE;
            }
            int n = ship.voyages.size();
            if (n > 0 && ship.voyages.get(n - 1)[1] > d || n == 6 || ship.claims.size() == 14 || ship.sums[1] + f > 9999) {
                return NOT;
            }
            MShip then = ship.copy();
            then.voyages.add(new int[] {d + 1, e});
            MClaim wage = new MClaim();
            wage.holder = h;
            wage.day = e;
            wage.amount = w;
            wage.leave = true;
            wage.asked = e;
            then.claims.add(wage);
            then.sums[1] += f;
            Outcome o = then.pay(laws[land], e, way);
            int wise = 0;
            for (int q = 0; q < 6; q++) {
                int worth = then.has(o, q) * (100 - c) - 100 * has(land, d, way, q);
                if (q == p) {
                    return worth;
                }
                wise |= worth > 0 ? 1 << q : 0;
            }
            return wise;
        }

        int hang(int land, int d, int way, int c, int what) {
            if (!in(land, 0, 3) || c != NONE && !isClaim(c)) {
                return UNKNOWN;
            }
            if (!dayWay(d, way) || !in(what, 0, 3)) {
                return OUTSIDE;
            }
            if (c == NONE) {
                int[] all = new int[ship.claims.size()];
                for (int k = 0; k < all.length; k++) {
                    all[k] = hang(land, d, way, k, what);
                }
                return bestOf(all, 0);
            }
            MShip other = ship.copy();
            MClaim m = other.claims.get(c);
            if (what == 0) {
                other.claims.remove(c);
            } else if (what == 1) {
                m.leave = !m.leave;
            } else if (what == 2) {
                m.day = m.day == 999 ? 999 : m.day + 1;
            } else {
                m.asked = d;
            }
            int[] then = other.pay(laws[land], d, way).paid;
            int[] now = ship.pay(laws[land], d, way).paid;
            int change = 0;
            for (int k = 0; k < now.length; k++) {
                if (k != c) {
                    change += Math.abs(now[k] - then[what == 0 && k > c ? k - 1 : k]);
                }
            }
            return change;
        }

        int keep(int i) {
            if (!in(i, 0, 1)) {
                return UNKNOWN;
            }
            images[i] = ship.copy();
            return 1;
        }

        int goBack(int i) {
            if (!in(i, 0, 1)) {
                return UNKNOWN;
            }
            if (images[i] == null) {
                return NOT;
            }
            ship = images[i].copy();
            return 1;
        }
    }

    private final Random random;
    private final LastLent x = new LastLent();
    private final Model m = new Model();
    private final int run;
    /** Days are taken from 0 to this one, so that they often meet. */
    private final int span;
    private int wrong;

    private LastLentAgainstModel(int run) {
        this.run = run;
        random = new Random(run * 7919L + 17);
        span = List.of(12, 40, 999).get(run % 3);
    }

    private void same(int got, int want, String name, int... args) {
        if (got != want) {
            wrong++;
            System.out.println("run " + run + ": " + name + Arrays.toString(args) + " answered " + got + ", the model " + want);
        }
    }

    private int upTo(int n) {
        return random.nextInt(n + 1);
    }

    /** A number from low to high, at times one just beside them or far away. */
    private int about(int low, int high) {
        int dice = upTo(199);
        if (dice == 0) {
            return low - 1;
        }
        if (dice == 1) {
            return high + 1;
        }
        if (dice == 2) {
            return random.nextInt();
        }
        return low + upTo(Math.max(0, high - low));
    }

    private int day() {
        return upTo(30) == 0 ? about(0, 999) : about(0, span);
    }

    private String kindWord() {
        return KINDS.get(upTo(7));
    }

    private String clause() {
        switch (upTo(13)) {
            case 0:
            case 1: return "rides " + kindWord() + List.of(" ship", " freight", " cargo", " ship cargo", " freight ship",
                " cargo freight ship").get(upTo(5));
            case 2:
            case 3:
            case 4:
            case 5: return "ahead " + kindWord() + " " + kindWord();
            case 6: return "first " + kindWord();
            case 7: return "behind " + kindWord();
            case 8: return "later";
            case 9: return "within " + List.of("later", "sooner", "parts").get(upTo(2));
            case 10: return "dies " + kindWord() + " " + upTo(20);
            case 11: return "leave " + kindWord();
            case 12: return "sale";
            default: return "costs " + upTo(40);
        }
    }

    private void tellLaw() {
        StringBuilder text = new StringBuilder();
        int clauses = upTo(9);
        for (int tries = 0; tries < 40 && clauses > 0; tries++) {
            String next = text + clause() + (upTo(5) == 0 ? " ; " : ";");
            if (next.length() <= 240 && (read(next).fault == 0 || upTo(60) == 0)) {
                text = new StringBuilder(next);
                clauses--;
            }
        }
        if (upTo(5) == 0 && text.length() > 0) {
            int at = upTo(text.length() - 1);
            char sign = upTo(3) == 0 ? (char) upTo(255) : "abdegst ;0159".charAt(upTo(12));
            switch (upTo(2)) {
                case 0: text.setCharAt(at, sign); break;
                case 1: text.deleteCharAt(at); break;
                default: text.insert(at, sign); break;
            }
        }
        feedText(text.toString());
        int land = about(0, 3);
        same(x.law(land), m.law(land), "law", land);
        same(x.fault(), m.fault, "fault");
    }

    private void feedText(String text) {
        byte[] bytes = text.getBytes(StandardCharsets.ISO_8859_1);
        for (int at = 0; at < bytes.length; ) {
            int n = Math.min(1 + upTo(7), bytes.length - at);
            long packed = random.nextLong();
            for (int i = 0; i < n; i++) {
                packed = packed << 8 | bytes[at + i] & 255;
            }
            same(x.feed(n, packed), m.feed(n, packed), "feed", n);
            at += n;
        }
    }

    private void build() {
        int a;
        int b;
        int c;
        int d;
        switch (upTo(9)) {
            case 0: a = day(); b = day(); same(x.voyage(a, b), m.voyage(a, b), "voyage", a, b); break;
            case 1:
            case 2:
            case 3:
                a = about(0, 7);
                b = about(0, 5);
                c = day();
                d = about(1, upTo(2) == 0 ? 999 : 60);
                boolean leave = random.nextBoolean();
                int cargoes = about(0, 7);
                same(x.claim(a, b, c, d, leave, cargoes), m.claim(a, b, c, d, leave, cargoes), "claim", a, b, c, d, cargoes);
                break;
            case 4: a = claimNumber(); b = upTo(4) == 0 ? NONE : day(); same(x.ask(a, b), m.ask(a, b), "ask", a, b); break;
            case 5:
            case 6:
                a = about(0, 4);
                b = about(0, upTo(9) == 0 ? 9999 : 200);
                same(x.fund(a, b), m.fund(a, b), "fund", a, b);
                break;
            case 7: a = about(0, 2); b = about(0, 5); same(x.owner(a, b), m.owner(a, b), "owner", a, b); break;
            case 8: a = claimNumber(); b = about(0, 5); same(x.pass(a, b), m.pass(a, b), "pass", a, b); break;
            default:
                a = about(0, 1);
                if (upTo(2) == 0) {
                    same(x.keep(a), m.keep(a), "keep", a);
                } else if (upTo(2) == 0) {
                    same(x.goBack(a), m.goBack(a), "goBack", a);
                }
                break;
        }
    }

    private int claimNumber() {
        return about(0, Math.max(0, m.ship.claims.size() - 1));
    }

    private void look() {
        int land = about(0, 3);
        int d = day();
        int k = about(0, 7);
        int what = about(0, 5);
        int c = claimNumber();
        int e = claimNumber();
        int f = about(0, 4);
        same(x.kind(land, k, what), m.kind(land, k, what), "kind", land, k, what);
        same(x.rule(land, what), m.rule(land, what), "rule", land, what);
        same(x.goes(land, k, what), m.goes(land, k, what), "goes", land, k, what);
        same(x.told(c, k), m.told(c, k), "told", c, k);
        same(x.count(f), m.count(f), "count", f);
        same(x.lives(land, d, c), m.lives(land, d, c), "lives", land, d, c);
        same(x.last(land, c), m.last(land, c), "last", land, c);
        same(x.ahead(land, c, e), m.ahead(land, c, e), "ahead", land, c, e);
        same(x.step(land, d, f, c), m.step(land, d, f, c), "step", land, d, f, c);
    }

    private void lookAtPay() {
        int land = about(0, 3);
        int d = upTo(2) == 0 ? day() : about(span, span);
        int way = about(0, 1);
        int c = claimNumber();
        int f = about(0, 4);
        int h = about(-1, 5);
        int cargo = about(0, 2);
        int what = about(0, 1);
        same(x.paid(land, d, way, c), m.paid(land, d, way, c), "paid", land, d, way, c);
        same(x.left(land, d, way, f), m.left(land, d, way, f), "left", land, d, way, f);
        same(x.has(land, d, way, h), m.has(land, d, way, h), "has", land, d, way, h);
        for (int i = 0; i < 5; i++) {
            same(x.order(land, d, way, i), m.order(land, d, way, i), "order", land, d, way, i);
        }
        same(x.back(land, d, way, cargo, what), m.back(land, d, way, cargo, what), "back", land, d, way, cargo, what);
    }

    private void suppose() {
        int land = about(0, 3);
        int d = upTo(2) == 0 ? day() : about(span, span);
        int way = about(0, 1);
        int c = claimNumber();
        int h = about(0, 5);
        int p = about(-1, 5);
        int what = about(0, 1);
        int e = day();
        int q = about(1, 200);
        same(x.wake(land, d, way, c, e), m.wake(land, d, way, c, e), "wake", land, d, way, c, e);
        same(x.best(d, way, h, what), m.best(d, way, h, what), "best", d, way, h, what);
        same(x.buy(land, d, way, h, q, what), m.buy(land, d, way, h, q, what), "buy", land, d, way, h, q, what);
        same(x.clear(land, d, way, h, what), m.clear(land, d, way, h, what), "clear", land, d, way, h, what);
        int w = about(1, 99);
        int f = upTo(9) == 0 ? about(0, 9999) : about(0, 100);
        int chance = about(0, 100) / (1 + upTo(9));
        int end = upTo(3) == 0 ? e : Math.max(0, d) + 1 + upTo(9);
        same(x.more(land, d, way, p, h, end, w, f, chance), m.more(land, d, way, p, h, end, w, f, chance),
            "more", land, d, way, p, h, end, w, f, chance);
        int change = about(0, 3);
        int hung = upTo(3) == 0 ? NONE : c;
        same(x.hang(land, d, way, hung, change), m.hang(land, d, way, hung, change), "hang", land, d, way, hung, change);
    }

    private int go() {
        for (int land = 0; land < 4; land++) {
            tellLaw();
        }
        // Some ships are laden before they are looked at, so that funds are too small for all.
        for (int c = run % 2 * 12; c > 0; c--) {
            build();
        }
        for (int turn = 0; turn < 26; turn++) {
            build();
            if (turn % 4 == 0) {
                look();
            }
            if (turn % 5 == 4) {
                lookAtPay();
            }
            if (turn % 9 == 8) {
                suppose();
            }
            if (upTo(12) == 0) {
                tellLaw();
            }
        }
        return wrong;
    }

    public static void main(String[] args) {
        int runs = Integer.getInteger("runs", 400);
        int wrong = 0;
        for (int run = 0; run < runs; run++) {
            wrong += new LastLentAgainstModel(run).go();
        }
        System.out.println(runs + " runs, " + wrong + " answers not as the model's");
        if (wrong != 0) {
            System.exit(1);
        }
    }
}
