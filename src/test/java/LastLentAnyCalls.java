import java.lang.reflect.InvocationTargetException;
import java.lang.reflect.Method;
import java.lang.reflect.Modifier;
import java.nio.charset.StandardCharsets;
import java.util.ArrayList;
import java.util.Arrays;
import java.util.Comparator;
import java.util.List;
import java.util.Map;
import java.util.Random;
import java.util.Set;

/**
 * Any calls with any numbers in any state: none throws. One object has them all, another one only those that change
 * something: both answer alike, as what is asked and what is refused changes nothing. The runs are the same every time.
 */
public final class LastLentAnyCalls {
    private static final Set<String> CHANGING =
        Set.of("feed", "law", "voyage", "claim", "ask", "fund", "owner", "pass", "keep", "goBack");
    private static final Set<Integer> REFUSALS =
        Set.of(LastLent.UNKNOWN, LastLent.OUTSIDE, LastLent.NOT, LastLent.FULL);
    private static final int[] EDGES =
        {-2, -1, 13, 14, 15, 99, 100, 101, 199, 200, 201, 239, 240, 998, 999, 1000, 9998, 9999, 10000};
    private static final int[] ENDS =
        {Integer.MIN_VALUE, Integer.MIN_VALUE + 1, Integer.MAX_VALUE - 1, Integer.MAX_VALUE, 1 << 16, 1 << 31, 1 << 30};
    private static final String[] TEXTS = {
        "", "later;", "sale;costs 7;", "within later;later;", "within sooner;first dues;behind pledge;",
        "rides wage ship freight;rides saved ship cargo;rides harm cargo;", "dies rope 10;leave need;sale;",
        "ahead wage rope;ahead rope need;ahead need wage;ahead need harm;", "rides saved cargo ship freight;later;costs 999;",
        "ahead wage wage;", "costs 1000;", "sal", "rides rope cargo;rides need freight cargo;within parts;"};
    /**
     * By call, a letter for each number: land, kind, holder, day, end of one more voyage, claim, amount, fund, sum, cargo,
     * way, both of two, image, of a hundred, set; h and c may be NONE; a figure is the greatest.
     */
    private static final Map<String, String> USUAL = Map.ofEntries(
        Map.entry("feed", "8-"), Map.entry("law", "L"), Map.entry("fault", ""), Map.entry("kind", "LK5"),
        Map.entry("rule", "L5"), Map.entry("goes", "LKK"), Map.entry("voyage", "DD"), Map.entry("claim", "KHDA-S"),
        Map.entry("ask", "CD"), Map.entry("fund", "FV"), Map.entry("owner", "GH"), Map.entry("pass", "CH"),
        Map.entry("told", "C7"), Map.entry("count", "4"), Map.entry("lives", "LDC"), Map.entry("last", "LC"),
        Map.entry("ahead", "LCC"), Map.entry("step", "LDFC"), Map.entry("paid", "LDWC"), Map.entry("left", "LDWF"),
        Map.entry("has", "LDWh"), Map.entry("order", "LDWF"), Map.entry("back", "LDWGB"), Map.entry("wake", "LDWCD"),
        Map.entry("best", "DWHB"), Map.entry("buy", "LDWHQB"), Map.entry("clear", "LDWHB"),
        Map.entry("more", "LDWhHEAVQ"), Map.entry("hang", "LDWc3"), Map.entry("keep", "I"), Map.entry("goBack", "I"));
    /** An object is used for so many calls at most. */
    private static final int MOST_CALLS = 512;
    private static final int LOOKS = 150;

    private static final List<Method> changing = new ArrayList<>();
    private static final List<Method> questions = new ArrayList<>();
    private static int wrong = 0;
    private static int calls = 0;

    public static void main(String[] args) throws Exception {
        for (Method method : LastLent.class.getDeclaredMethods()) {
            if (Modifier.isPublic(method.getModifiers())) {
                (CHANGING.contains(method.getName()) ? changing : questions).add(method);
            }
        }
        // The order in which a class tells its methods is not the same on every machine.
        changing.sort(Comparator.comparing(Method::getName));
        questions.sort(Comparator.comparing(Method::getName));
        int runs = Integer.getInteger("runs", 300);
        for (int seed = 0; seed < runs; seed++) {
            new Run(seed).go();
        }
        System.out.println(calls + " calls, " + wrong + " not as due");
        if (wrong != 0) {
            System.exit(1);
        }
    }

    private static void tellWrong(String what) {
        wrong++;
        if (wrong <= 20) {
            System.out.println(what);
        }
    }

    private static final class Run {
        final int seed;
        final Random random;
        final LastLent busy = new LastLent();
        final LastLent quiet = new LastLent();
        int ofBusy = 0;

        Run(int seed) {
            this.seed = seed;
            this.random = new Random(seed);
        }

        void go() throws Exception {
            tellALaw();
            while (ofBusy < MOST_CALLS - LOOKS - 60) {
                int turn = random.nextInt(100);
                if (turn < 3) {
                    tellALaw();
                } else if (turn < 50) {
                    change(changing.get(random.nextInt(changing.size())));
                } else {
                    Method question = questions.get(random.nextInt(questions.size()));
                    call(busy, question, numbersFor(question));
                }
            }
            for (int i = 0; i < LOOKS; i++) {
                Method question = questions.get(random.nextInt(questions.size()));
                Object[] numbers = numbersFor(question);
                int of = call(busy, question, numbers);
                int other = call(quiet, question, numbers);
                if (of != other) {
                    tellWrong("run " + seed + ": " + text(question, numbers) + " answered " + of
                        + ", and without questions and refused calls before " + other);
                }
            }
        }

        void tellALaw() throws Exception {
            byte[] bytes = TEXTS[random.nextInt(TEXTS.length)].getBytes(StandardCharsets.US_ASCII);
            Method feed = LastLent.class.getMethod("feed", int.class, long.class);
            for (int from = 0; from < bytes.length; from += 8) {
                int n = Math.min(8, bytes.length - from);
                long packed = 0;
                for (int i = from; i < from + n; i++) {
                    packed = packed << 8 | bytes[i];
                }
                onBoth(feed, n, packed);
            }
            onBoth(LastLent.class.getMethod("law", int.class), random.nextInt(4));
        }

        void change(Method method) throws Exception {
            onBoth(method, numbersFor(method));
        }

        /** What the busy one refuses does not come to the quiet one. */
        void onBoth(Method method, Object... numbers) throws Exception {
            int of = call(busy, method, numbers);
            if (REFUSALS.contains(of)) {
                return;
            }
            int other = call(quiet, method, numbers);
            if (of != other) {
                tellWrong("run " + seed + ": " + text(method, numbers) + " answered " + of
                    + ", and without questions and refused calls before " + other);
            }
        }

        Object[] numbersFor(Method method) {
            Class<?>[] types = method.getParameterTypes();
            String usual = USUAL.get(method.getName());
            Object[] numbers = new Object[types.length];
            boolean wild = random.nextInt(4) == 0;
            for (int i = 0; i < types.length; i++) {
                numbers[i] = types[i] == boolean.class ? (Object) random.nextBoolean()
                    : types[i] == long.class ? (Object) random.nextLong()
                    : (Object) (wild && random.nextInt(3) == 0 ? wildNumber() : usualNumber(usual.charAt(i)));
            }
            return numbers;
        }

        int usualNumber(char letter) {
            switch (letter) {
                case 'L': return random.nextInt(4);
                case 'K': return random.nextInt(8);
                case 'H': return random.nextInt(6);
                case 'h': return random.nextInt(7) - 1;
                case 'D': return random.nextInt(30);
                case 'E': return 30 + random.nextInt(30);
                case 'C': return random.nextInt(1 + random.nextInt(14));
                case 'c': return random.nextInt(1 + random.nextInt(14)) - 1;
                case 'A': return 1 + random.nextInt(300);
                case 'F': return random.nextInt(5);
                case 'V': return random.nextInt(600);
                case 'G': return random.nextInt(3);
                case 'W':
                case 'B':
                case 'I': return random.nextInt(2);
                case 'Q': return 1 + random.nextInt(100);
                case 'S': return random.nextInt(8);
                default: return random.nextInt(letter - '0' + 1);
            }
        }

        int wildNumber() {
            int turn = random.nextInt(3);
            return turn == 0 ? EDGES[random.nextInt(EDGES.length)]
                : turn == 1 ? ENDS[random.nextInt(ENDS.length)] : random.nextInt();
        }

        int call(LastLent x, Method method, Object... numbers) throws Exception {
            calls++;
            ofBusy += x == busy ? 1 : 0;
            try {
                return (Integer) method.invoke(x, numbers);
            } catch (InvocationTargetException thrown) {
                tellWrong("run " + seed + ": " + text(method, numbers) + " threw " + thrown.getCause());
                return Integer.MIN_VALUE;
            }
        }

        static String text(Method method, Object[] numbers) {
            String list = Arrays.toString(numbers);
            return method.getName() + "(" + list.substring(1, list.length() - 1) + ")";
        }
    }
}
