import java.nio.charset.StandardCharsets;
import java.util.ArrayList;
import java.util.Arrays;
import java.util.List;

/**
 * Promises 2 to 32: for each number that a call takes the last that is taken and the first that is refused on both
 * sides, and the least and the greatest int; of several refusals the first by the document's order; after what is
 * refused, and after a question, nothing has changed.
 */
public final class LastLentRefusals {
    private static final int NONE = -1, UNKNOWN = -1001, OUTSIDE = -1002, NOT = -1003, FULL = -1004;
    private static final int LOW = Integer.MIN_VALUE, HIGH = Integer.MAX_VALUE;
    private static int wrong = 0;
    private static int asked = 0;

    interface Call {
        int on(LastLent x, int[] a);
    }

    interface State {
        LastLent make();
    }

    /** A number that a call takes, from low to high, and by what it refuses another one. */
    record Bound(String name, int low, int high, int refusal) {
        int[] refused() {
            return new int[] {low - 1, high + 1, LOW, HIGH};
        }

        boolean takes(int v) {
            return v >= low && v <= high;
        }
    }

    /** A call with numbers that it takes all, and the bounds of each. */
    record Form(int promise, String name, boolean question, Call call, int[] good, Bound... bounds) {
        /** The refusal that is due, by the order of REFUSALS; 0: none. */
        int due(int[] a) {
            for (int refusal : new int[] {UNKNOWN, OUTSIDE}) {
                for (int i = 0; i < a.length; i++) {
                    if (bounds[i].refusal == refusal && !bounds[i].takes(a[i])) {
                        return refusal;
                    }
                }
            }
            return 0;
        }
    }

    // ---- states

    private static void feedText(LastLent x, String text) {
        byte[] bytes = text.getBytes(StandardCharsets.ISO_8859_1);
        for (int at = 0; at < bytes.length; at += 8) {
            int n = Math.min(8, bytes.length - at);
            long packed = 0;
            for (int i = 0; i < n; i++) {
                packed = packed << 8 | bytes[at + i] & 255;
            }
            x.feed(n, packed);
        }
    }

    private static void tell(LastLent x, int land, String text) {
        feedText(x, text);
        x.law(land);
    }

    /** Laws of two lands, a faulty one, and a text that is begun. */
    private static void tellLaws(LastLent x) {
        tell(x, 0, "rides wage ship freight;rides need ship cargo;ahead wage rope;ahead rope wage;first dues;costs 3;");
        tell(x, 3, "later;within sooner;dies rope 9;leave harm;sale;behind need;");
        tell(x, 1, "sale;sale;");
        feedText(x, "costs 12;");
    }

    private static void lade(LastLent x) {
        x.claim(1, 1, 5, 60, true, 0);
        x.claim(4, 2, 12, 70, false, 5);
        x.claim(0, 3, 20, 80, true, 7);
        x.claim(6, 4, 21, 90, false, 2);
        x.ask(0, 6);
        x.ask(2, 22);
        for (int f = 0; f < 5; f++) {
            x.fund(f, 40 + f);
        }
        x.owner(0, 1);
        x.owner(2, 5);
    }

    /** Five claims, no voyages; image 0 is kept of an earlier time, image 1 is not. */
    private static LastLent ashore() {
        LastLent x = new LastLent();
        tellLaws(x);
        x.claim(2, 5, 7, 11, true, 1);
        x.fund(3, 99);
        x.keep(0);
        x.pass(0, 2);
        lade(x);
        return x;
    }

    /** Two voyages, too. */
    private static LastLent laden() {
        LastLent x = ashore();
        x.voyage(5, 10);
        x.voyage(20, 30);
        return x;
    }

    /** All that can be full is; both images are kept. */
    private static LastLent full() {
        LastLent x = new LastLent();
        tellLaws(x);
        lade(x);
        x.keep(1);
        for (int v = 0; v < 6; v++) {
            x.voyage(3 * v + 3, 3 * v + 4);
        }
        for (int c = 4; c < 14; c++) {
            x.claim(c % 8, c % 6, c + 10, 999, c % 2 == 0, c % 8);
        }
        for (int f = 0; f < 5; f++) {
            x.fund(f, 9999);
        }
        x.keep(0);
        feedText(x, " ".repeat(231));
        return x;
    }

    // ---- what is so

    private static void lookAtShip(LastLent x, List<Integer> seen) {
        for (int what = 0; what < 5; what++) {
            seen.add(x.count(what));
        }
        for (int c : new int[] {0, 1, 4, 13}) {
            for (int what = 0; what < 8; what++) {
                seen.add(x.told(c, what));
            }
        }
        for (int h = NONE; h < 6; h++) {
            seen.add(x.has(0, 40, 0, h));
            seen.add(x.has(3, 40, 1, h));
        }
        for (int a : new int[] {9, 10, 11, 19, 20, 30, 31}) {
            seen.add(x.voyage(a, a));
        }
        for (int f = 0; f < 5; f++) {
            seen.add(x.fund(f, 0));
        }
        for (int cargo = 0; cargo < 3; cargo++) {
            seen.add(x.owner(cargo, 0));
        }
    }

    /** All that shows; it changes the object, so it is looked at once. */
    private static List<Integer> look(LastLent x) {
        List<Integer> seen = new ArrayList<>();
        seen.add(x.fault());
        for (int land = 0; land < 4; land++) {
            for (int what = 0; what < 6; what++) {
                seen.add(x.rule(land, what));
            }
        }
        for (int k = 0; k < 8; k++) {
            for (int what = 0; what < 6; what++) {
                seen.add(x.kind(k % 2 == 0 ? 0 : 3, k, what));
            }
        }
        lookAtShip(x, seen);
        seen.add(x.law(2));
        seen.add(x.fault());
        seen.add(x.rule(2, 3));
        for (int i = 0; i < 2; i++) {
            seen.add(x.goBack(i));
            lookAtShip(x, seen);
        }
        return seen;
    }

    // ---- checks

    private static void check(State state, List<Integer> before, Form form, int[] a, int due) {
        LastLent x = state.make();
        int got = form.call.on(x, a);
        boolean refused = got == UNKNOWN || got == OUTSIDE || got == NOT || got == FULL;
        asked++;
        if (due == 0 ? refused : got != due) {
            wrong++;
            System.out.println(form.promise + ": " + form.name + Arrays.toString(a) + " answered " + got + ", due is "
                + (due == 0 ? "no refusal" : "" + due));
        }
        if ((due != 0 || form.question) && !look(x).equals(before)) {
            wrong++;
            System.out.println(form.promise + ": " + form.name + Arrays.toString(a) + " changed something");
        }
    }

    private static int[] with(int[] good, int i, int v) {
        int[] a = good.clone();
        a[i] = v;
        return a;
    }

    /** What is taken at each edge. */
    private static void taken(State state, Form form) {
        List<Integer> before = look(state.make());
        for (int i = 0; i < form.bounds.length; i++) {
            Bound bound = form.bounds[i];
            for (int v : new int[] {bound.low, bound.high}) {
                int[] a = with(form.good, i, v);
                check(state, before, form, a, form.due(a));
            }
        }
    }

    /** What is refused on each side, with all else good. */
    private static void refused(State state, Form form) {
        List<Integer> before = look(state.make());
        for (int i = 0; i < form.bounds.length; i++) {
            for (int v : form.bounds[i].refused()) {
                int[] a = with(form.good, i, v);
                check(state, before, form, a, form.due(a));
            }
        }
    }

    /** Two that are refused at once, and all at once. */
    private static void refusedTogether(State state, Form form) {
        List<Integer> before = look(state.make());
        int n = form.bounds.length;
        for (int i = 0; i < n; i++) {
            for (int j = i + 1; j < n; j++) {
                for (int v : form.bounds[i].refused()) {
                    for (int w : form.bounds[j].refused()) {
                        int[] a = with(with(form.good, i, v), j, w);
                        check(state, before, form, a, form.due(a));
                    }
                }
            }
        }
        for (int side = 0; side < 4; side++) {
            int[] a = new int[n];
            for (int i = 0; i < n; i++) {
                a[i] = form.bounds[i].refused()[side];
            }
            check(state, before, form, a, form.due(a));
        }
    }

    // ---- the calls

    private static Bound land() {
        return new Bound("land", 0, 3, UNKNOWN);
    }

    private static Bound kind() {
        return new Bound("kind", 0, 7, UNKNOWN);
    }

    private static Bound holder() {
        return new Bound("holder", 0, 5, UNKNOWN);
    }

    private static Bound holderOrNone() {
        return new Bound("holder or NONE", NONE, 5, UNKNOWN);
    }

    private static Bound fundNumber() {
        return new Bound("fund", 0, 4, UNKNOWN);
    }

    private static Bound cargo() {
        return new Bound("cargo", 0, 2, UNKNOWN);
    }

    private static Bound day() {
        return new Bound("day", 0, 999, OUTSIDE);
    }

    private static Bound way() {
        return new Bound("way", 0, 1, OUTSIDE);
    }

    private static Bound what(int last) {
        return new Bound("what", 0, last, OUTSIDE);
    }

    private static Bound claimOf(int claims) {
        return new Bound("claim", 0, claims - 1, UNKNOWN);
    }

    private static int[] good(int... a) {
        return a;
    }

    /** Calls that change something. Where nothing else is told, what they take here is neither NOT nor FULL. */
    private static List<Form> changes(int claims) {
        int c = Math.max(0, claims - 1);
        return List.of(
            new Form(2, "feed", false, (x, a) -> x.feed(a[0], 0x3BL), good(1), new Bound("n", 1, 8, OUTSIDE)),
            new Form(3, "law", false, (x, a) -> x.law(a[0]), good(2), land()),
            new Form(9, "claim", false, (x, a) -> x.claim(a[0], a[1], a[2], a[3], true, a[4]), good(1, 2, 3, 4, 5),
                kind(), holder(), day(), new Bound("amount", 1, 999, OUTSIDE), new Bound("cargoes", 0, 7, UNKNOWN)),
            new Form(9, "claim", false, (x, a) -> x.claim(a[0], a[1], a[2], a[3], false, a[4]), good(7, 5, 999, 999, 7),
                kind(), holder(), day(), new Bound("amount", 1, 999, OUTSIDE), new Bound("cargoes", 0, 7, UNKNOWN)),
            new Form(10, "ask", false, (x, a) -> x.ask(a[0], a[1]), good(c, 77), claimOf(claims),
                new Bound("day or NONE", NONE, 999, OUTSIDE)),
            new Form(11, "fund", false, (x, a) -> x.fund(a[0], a[1]), good(3, 77), fundNumber(),
                new Bound("sum", 0, 9999, OUTSIDE)),
            new Form(12, "owner", false, (x, a) -> x.owner(a[0], a[1]), good(1, 3), cargo(), holder()),
            new Form(13, "pass", false, (x, a) -> x.pass(a[0], a[1]), good(c, 0), claimOf(claims), holder()),
            new Form(31, "keep", false, (x, a) -> x.keep(a[0]), good(1), new Bound("image", 0, 1, UNKNOWN)));
    }

    private static List<Form> questions(int claims) {
        int c = Math.max(0, claims - 1);
        return List.of(
            new Form(4, "fault", true, (x, a) -> x.fault(), good()),
            new Form(5, "kind", true, (x, a) -> x.kind(a[0], a[1], a[2]), good(3, 7, 5), land(), kind(), what(5)),
            new Form(6, "rule", true, (x, a) -> x.rule(a[0], a[1]), good(3, 5), land(), what(5)),
            new Form(7, "goes", true, (x, a) -> x.goes(a[0], a[1], a[2]), good(0, 0, 1), land(), kind(), kind()),
            new Form(14, "told", true, (x, a) -> x.told(a[0], a[1]), good(c, 3), claimOf(claims), what(7)),
            new Form(15, "count", true, (x, a) -> x.count(a[0]), good(1), what(4)),
            new Form(16, "lives", true, (x, a) -> x.lives(a[0], a[1], a[2]), good(3, 22, c),
                land(), day(), claimOf(claims)),
            new Form(17, "last", true, (x, a) -> x.last(a[0], a[1]), good(3, c), land(), claimOf(claims)),
            new Form(18, "ahead", true, (x, a) -> x.ahead(a[0], a[1], a[2]), good(3, 0, c),
                land(), claimOf(claims), claimOf(claims)),
            new Form(19, "step", true, (x, a) -> x.step(a[0], a[1], a[2], a[3]), good(0, 40, 0, c),
                land(), day(), fundNumber(), claimOf(claims)),
            new Form(20, "paid", true, (x, a) -> x.paid(a[0], a[1], a[2], a[3]), good(0, 40, 1, c),
                land(), day(), way(), claimOf(claims)),
            new Form(21, "left", true, (x, a) -> x.left(a[0], a[1], a[2], a[3]), good(0, 40, 1, 2),
                land(), day(), way(), fundNumber()),
            new Form(22, "has", true, (x, a) -> x.has(a[0], a[1], a[2], a[3]), good(0, 40, 1, 2),
                land(), day(), way(), holderOrNone()),
            new Form(23, "order", true, (x, a) -> x.order(a[0], a[1], a[2], a[3]), good(0, 40, 1, 2),
                land(), day(), way(), new Bound("i", 0, 4, UNKNOWN)),
            new Form(24, "back", true, (x, a) -> x.back(a[0], a[1], a[2], a[3], a[4]), good(0, 40, 1, 2, 1),
                land(), day(), way(), cargo(), what(1)),
            new Form(25, "wake", true, (x, a) -> x.wake(a[0], a[1], a[2], a[3], a[4]), good(3, 40, 1, c, 33),
                land(), day(), way(), claimOf(claims), day()),
            new Form(26, "best", true, (x, a) -> x.best(a[0], a[1], a[2], a[3]), good(40, 1, 2, 1),
                day(), way(), holder(), what(1)),
            new Form(27, "buy", true, (x, a) -> x.buy(a[0], a[1], a[2], a[3], a[4], a[5]), good(0, 40, 1, 2, 50, 1),
                land(), day(), way(), holder(), new Bound("q", 1, 200, OUTSIDE), what(1)),
            new Form(28, "clear", true, (x, a) -> x.clear(a[0], a[1], a[2], a[3], a[4]), good(0, 40, 1, 2, 1),
                land(), day(), way(), holder(), what(1)),
            new Form(30, "hang", true, (x, a) -> x.hang(a[0], a[1], a[2], a[3], a[4]), good(0, 40, 1, c, 3),
                land(), day(), way(), new Bound("claim or NONE", NONE, claims - 1, UNKNOWN), what(3)));
    }

    /** On day d a voyage to day e; d goes to e less one, e from d and one. */
    private static Form more(int d, int e) {
        return new Form(29, "more", true, (x, a) -> x.more(a[0], a[1], a[2], a[3], a[4], a[5], a[6], a[7], a[8]),
            good(0, d, 1, NONE, 2, e, 50, 60, 10),
            land(), new Bound("d", 0, e - 1, OUTSIDE), way(), holderOrNone(), holder(),
            new Bound("e", d + 1, 999, OUTSIDE), new Bound("wage", 1, 999, OUTSIDE),
            new Bound("freight", 0, 9999 - 41, OUTSIDE), new Bound("chance", 0, 100, OUTSIDE));
    }

    /** FREIGHT could be above 9999 by a number that is taken by itself, so f is asked for apart. */
    private static Form moreWithoutFreight(int d, int e) {
        Form form = more(d, e);
        Bound[] bounds = form.bounds.clone();
        bounds[7] = new Bound("freight", 0, 9999, OUTSIDE);
        return new Form(29, "more", true, form.call, form.good, bounds);
    }

    private static Form voyage() {
        return new Form(8, "voyage", false, (x, a) -> x.voyage(a[0], a[1]), good(0, 999), day(), day());
    }

    private static Form goBack() {
        return new Form(32, "goBack", false, (x, a) -> x.goBack(a[0]), good(0), new Bound("image", 0, 1, UNKNOWN));
    }

    // ---- tests

    private static void numbersOfAllCalls() {
        for (Form form : changes(5)) {
            taken(LastLentRefusals::laden, form);
            refused(LastLentRefusals::laden, form);
            refusedTogether(LastLentRefusals::laden, form);
        }
        for (Form form : questions(5)) {
            taken(LastLentRefusals::laden, form);
            refused(LastLentRefusals::laden, form);
            refusedTogether(LastLentRefusals::laden, form);
        }
        // Without claims there is none that is taken, and UNKNOWN comes ahead of OUTSIDE.
        for (Form form : questions(0)) {
            taken(LastLent::new, form);
            refused(LastLent::new, form);
        }
        for (Form form : questions(14)) {
            taken(LastLentRefusals::full, form);
            refused(LastLentRefusals::full, form);
        }
    }

    private static void voyages() {
        taken(LastLentRefusals::ashore, voyage());
        refused(LastLentRefusals::ashore, voyage());
        refusedTogether(LastLentRefusals::ashore, voyage());
        List<Integer> before = look(ashore());
        for (int[] a : new int[][] {{5, 4}, {999, 0}, {1, 0}, {999, 998}}) {
            check(LastLentRefusals::ashore, before, voyage(), a, OUTSIDE);
        }
        // The last voyage ends on day 30.
        before = look(laden());
        for (int[] a : new int[][] {{30, 30}, {30, 999}, {0, 0}, {0, 999}, {29, 31}, {20, 30}, {5, 10}, {12, 13}}) {
            check(LastLentRefusals::laden, before, voyage(), a, NOT);
        }
        for (int[] a : new int[][] {{30, 29}, {0, 1000}, {-1, 5}, {30, LOW}, {LOW, 30}, {30, HIGH}, {HIGH, HIGH}}) {
            check(LastLentRefusals::laden, before, voyage(), a, OUTSIDE);
        }
        for (int[] a : new int[][] {{31, 31}, {31, 999}, {999, 999}}) {
            check(LastLentRefusals::laden, before, voyage(), a, 0);
        }
        // There are six, and the last one ends on day 19.
        before = look(full());
        for (int[] a : new int[][] {{20, 20}, {20, 999}, {999, 999}}) {
            check(LastLentRefusals::full, before, voyage(), a, FULL);
        }
        for (int[] a : new int[][] {{19, 19}, {19, 999}, {0, 0}, {3, 4}}) {
            check(LastLentRefusals::full, before, voyage(), a, NOT);
        }
        for (int[] a : new int[][] {{20, 19}, {19, 18}, {1000, 1000}, {-1, 20}, {20, 1000}, {LOW, LOW}, {20, LOW}}) {
            check(LastLentRefusals::full, before, voyage(), a, OUTSIDE);
        }
    }

    private static void whenFull() {
        List<Integer> before = look(full());
        for (Form form : changes(14)) {
            refused(LastLentRefusals::full, form);
            if (form.name.equals("claim")) {
                refusedTogether(LastLentRefusals::full, form);
                check(LastLentRefusals::full, before, form, form.good, FULL);
                for (int i = 0; i < 5; i++) {
                    Bound bound = form.bounds[i];
                    check(LastLentRefusals::full, before, form, with(form.good, i, bound.low), FULL);
                    check(LastLentRefusals::full, before, form, with(form.good, i, bound.high), FULL);
                }
            } else if (form.name.equals("feed")) {
                for (int n = 1; n <= 8; n++) {
                    check(LastLentRefusals::full, before, form, good(n), FULL);
                }
            } else {
                taken(LastLentRefusals::full, form);
            }
        }
    }

    /** FREIGHT is 9999 already. */
    private static LastLent fullFreight() {
        LastLent x = ashore();
        x.fund(1, 9999);
        return x;
    }

    private static LastLent sixVoyages() {
        LastLent x = ashore();
        for (int v = 0; v < 6; v++) {
            x.voyage(v, v);
        }
        return x;
    }

    private static LastLent fourteenClaims() {
        LastLent x = ashore();
        for (int c = 5; c < 14; c++) {
            x.claim(0, 1, 2, 3, true, 0);
        }
        return x;
    }

    private static void oneMoreVoyage() {
        taken(LastLentRefusals::ashore, more(40, 50));
        taken(LastLentRefusals::ashore, more(0, 999));
        taken(LastLentRefusals::ashore, more(998, 999));
        taken(LastLentRefusals::ashore, more(0, 1));
        refused(LastLentRefusals::ashore, moreWithoutFreight(40, 50));
        refusedTogether(LastLentRefusals::ashore, moreWithoutFreight(40, 50));
        List<Integer> before = look(ashore());
        Form form = moreWithoutFreight(40, 50);
        for (int[] days : new int[][] {{40, 40}, {40, 39}, {999, 999}, {998, 1000}, {999, 1000}, {0, 0}, {-1, 0}, {-2, -1},
            {HIGH, LOW}, {HIGH - 1, HIGH}, {LOW, LOW + 1}, {5, LOW}}) {
            check(LastLentRefusals::ashore, before, form, with(with(form.good, 1, days[0]), 5, days[1]), OUTSIDE);
        }
        // FREIGHT is 41.
        check(LastLentRefusals::ashore, before, form, with(form.good, 7, 9958), 0);
        check(LastLentRefusals::ashore, before, form, with(form.good, 7, 9959), NOT);
        check(LastLentRefusals::ashore, before, form, with(form.good, 7, 9999), NOT);
        // The last voyage ends on day 30.
        before = look(laden());
        for (int d : new int[] {0, 5, 19, 20, 29}) {
            check(LastLentRefusals::laden, before, form, with(form.good, 1, d), NOT);
        }
        for (int d : new int[] {30, 31, 49}) {
            check(LastLentRefusals::laden, before, form, with(form.good, 1, d), 0);
        }
        notNow(LastLentRefusals::laden, moreWithoutFreight(29, 50));
        notNow(LastLentRefusals::fullFreight, form);
        notNow(LastLentRefusals::sixVoyages, form);
        notNow(LastLentRefusals::fourteenClaims, form);
        notNow(LastLentRefusals::full, form);
        check(LastLentRefusals::fullFreight, look(fullFreight()), form, with(form.good, 7, 0), 0);
        check(LastLentRefusals::fullFreight, look(fullFreight()), form, with(form.good, 7, 1), NOT);
    }

    /** A state in which what is good is NOT: UNKNOWN and OUTSIDE come ahead of it. */
    private static void notNow(State state, Form form) {
        check(state, look(state.make()), form, form.good, NOT);
        refused(state, form);
    }

    private static void images() {
        List<Integer> before = look(laden());
        refused(LastLentRefusals::laden, goBack());
        check(LastLentRefusals::laden, before, goBack(), good(0), 0);
        check(LastLentRefusals::laden, before, goBack(), good(1), NOT);
        List<Integer> empty = look(new LastLent());
        refused(LastLent::new, goBack());
        check(LastLent::new, empty, goBack(), good(0), NOT);
        check(LastLent::new, empty, goBack(), good(1), NOT);
        refused(LastLentRefusals::full, goBack());
        taken(LastLentRefusals::full, goBack());
    }

    public static void main(String[] args) {
        numbersOfAllCalls();
        voyages();
        whenFull();
        oneMoreVoyage();
        images();
        System.out.println(asked + " calls, " + wrong + " not as due");
        if (wrong != 0) {
            System.exit(1);
        }
    }
}
