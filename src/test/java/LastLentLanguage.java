import com.sun.management.ThreadMXBean;
import java.lang.management.ManagementFactory;
import java.lang.reflect.Constructor;
import java.lang.reflect.Field;
import java.lang.reflect.Method;
import java.lang.reflect.Modifier;
import java.nio.file.Files;
import java.nio.file.Path;
import java.util.Set;
import java.util.TreeSet;
import java.util.regex.Matcher;
import java.util.regex.Pattern;

/** The face, the rules of LANGUAGE.md that the source's words show, and the room that calls take. */
public final class LastLentLanguage {
    private static int wrong = 0;

    private static void must(boolean holds, String what) {
        if (!holds) {
            wrong++;
            System.out.println("not so: " + what);
        }
    }

    public static void main(String[] args) throws Exception {
        face();
        words(Files.readString(Path.of(args.length > 0 ? args[0] : "src/main/java/LastLent.java")));
        room();
        System.out.println(wrong + " rules broken");
        if (wrong != 0) {
            System.exit(1);
        }
    }

    private static final String[] FACE = {
        "feed(int,long)", "law(int)", "fault()", "kind(int,int,int)", "rule(int,int)", "goes(int,int,int)",
        "voyage(int,int)", "claim(int,int,int,int,boolean,int)", "ask(int,int)", "fund(int,int)", "owner(int,int)",
        "pass(int,int)", "told(int,int)", "count(int)", "lives(int,int,int)", "last(int,int)", "ahead(int,int,int)",
        "step(int,int,int,int)", "paid(int,int,int,int)", "left(int,int,int,int)", "has(int,int,int,int)",
        "order(int,int,int,int)", "back(int,int,int,int,int)", "wake(int,int,int,int,int)", "best(int,int,int,int)",
        "buy(int,int,int,int,int,int)", "clear(int,int,int,int,int)", "more(int,int,int,int,int,int,int,int,int)",
        "hang(int,int,int,int,int)", "keep(int)", "goBack(int)"};

    private static void face() {
        Set<String> seen = new TreeSet<>();
        Set<String> names = new TreeSet<>();
        for (Method method : LastLent.class.getDeclaredMethods()) {
            if (Modifier.isPublic(method.getModifiers())) {
                String whole = method.toString().replaceAll(".*LastLent\\.", "");
                seen.add(whole);
                names.add(method.getName());
                must(method.getReturnType() == int.class, whole + " answers int");
            } else {
                must(Modifier.isPrivate(method.getModifiers()), method + " is private");
            }
        }
        must(seen.equals(new TreeSet<>(Set.of(FACE))), "the face is the document's: " + seen);
        for (Class<?> inside : LastLent.class.getDeclaredClasses()) {
            must(Modifier.isStatic(inside.getModifiers()), inside + " is static");
            ownMethods(inside, names);
            fewFields(inside);
        }
        ownMethods(LastLent.class, names);
        fewFields(LastLent.class);
        for (Field field : LastLent.class.getDeclaredFields()) {
            boolean named = Set.of("NONE", "UNKNOWN", "OUTSIDE", "NOT", "FULL").contains(field.getName());
            must(named == Modifier.isPublic(field.getModifiers()), field + " is public or not");
            must(named || Modifier.isPrivate(field.getModifiers()), field + " is private");
        }
        Constructor<?>[] constructors = LastLent.class.getDeclaredConstructors();
        must(constructors.length == 1 && Modifier.isPublic(constructors[0].getModifiers()), "one public constructor");
        must(Modifier.isFinal(LastLent.class.getModifiers()), "the class is final");
    }

    private static void fewFields(Class<?> inside) {
        int fields = 0;
        for (Field field : inside.getDeclaredFields()) {
            fields += Modifier.isStatic(field.getModifiers()) ? 0 : 1;
        }
        must(fields <= 20, inside + " has few fields");
    }

    private static void ownMethods(Class<?> inside, Set<String> face) {
        for (Method method : inside.getDeclaredMethods()) {
            if (!Modifier.isPublic(method.getModifiers())) {
                must(!face.contains(method.getName()), method + " bears a name of its own");
                must(method.getParameterCount() <= 7, method + " has at most seven parameters");
            }
        }
    }

    private static void words(String source) {
        String bare = source.replaceAll("(?s)/\\*.*?\\*/", " ").replaceAll("//[^\n]*", " ");
        for (int i = 0; i < source.length(); i++) {
            must(source.charAt(i) < 128, "a sign above 127 at " + i);
        }
        String code = bare.replaceAll("\"[^\"]*\"", "\"\"");
        for (String word : new String[] {"throw", "throws", "try", "catch", "synchronized", "assert", "import", "package",
            "Object", "hashCode", "toString", "float", "double", "yield", "var", "native", "volatile"}) {
            must(!Pattern.compile("\\b" + word + "\\b").matcher(code).find(), "no '" + word + "'");
        }
        must(!code.contains("->") && !code.contains("::"), "no lambda, no method reference");
        Matcher calls = Pattern.compile("\\b(System|Math|Integer|Long|Arrays|String|StringBuilder)\\.(\\w+)").matcher(code);
        while (calls.find()) {
            must(Set.of("arraycopy", "max", "min", "abs", "compare").contains(calls.group(2)), "library: " + calls.group());
        }
        Matcher statics = Pattern.compile("(?m)^.*\\bstatic\\b(?!.*\\bclass\\b)[^(={;]*[=;]").matcher(code);
        while (statics.find()) {
            must(statics.group().contains("final"), "a static field that is not final: " + statics.group().trim());
        }
        methodsAreShort(code);
    }

    private static void methodsAreShort(String code) {
        int begun = -1;
        String[] lines = code.split("\n", -1);
        for (int i = 0; i < lines.length; i++) {
            if (lines[i].matches(" {4,8}[A-Za-z].*\\) \\{")) {
                begun = i;
            } else if (begun >= 0 && lines[i].matches(" {4,8}\\}")) {
                must(i - begun < 60, "a method of " + (i - begun) + " lines at " + (begun + 1));
                begun = -1;
            }
        }
    }

    /** All calls of many objects live in one room, so a call makes nothing. */
    private static void room() {
        if (!(ManagementFactory.getThreadMXBean() instanceof ThreadMXBean threads)) {
            System.out.println("this machine does not tell what is made");
            return;
        }
        long thread = Thread.currentThread().getId();
        LastLent x = new LastLent();
        allCalls(x);
        long before = threads.getThreadAllocatedBytes(thread);
        LastLent y = new LastLent();
        long made = threads.getThreadAllocatedBytes(thread);
        for (int i = 0; i < 8; i++) {
            allCalls(y);
        }
        long after = threads.getThreadAllocatedBytes(thread);
        must(made - before < 20_000, "an object takes " + (made - before) + " bytes");
        must(after - made < 4_000, "its calls take " + (after - made) + " bytes");
    }

    private static int allCalls(LastLent x) {
        x.feed(5, 0x73616C653BL);
        int sum = x.law(3);
        x.voyage(1, 10);
        for (int c = 0; c < 13; c++) {
            x.claim(c % 8, c % 6, c, 10 + c, true, c % 8);
        }
        for (int f = 0; f < 5; f++) {
            x.fund(f, 20);
        }
        x.owner(1, 2);
        x.pass(3, 1);
        x.ask(2, 5);
        for (int way = 0; way < 2; way++) {
            sum += x.paid(0, 20, way, 1) + x.left(0, 20, way, 1) + x.has(0, 20, way, 1) + x.order(0, 20, way, 1);
            sum += x.back(0, 20, way, 1, 1) + x.wake(3, 20, way, 1, 9) + x.best(20, way, 1, 1);
            sum += x.buy(0, 20, way, 1, 50, 0) + x.clear(0, 20, way, 1, 0) + x.more(0, 20, way, -1, 1, 30, 9, 9, 9);
            sum += x.hang(0, 20, way, -1, 0) + x.step(0, 20, way, 1) + x.ahead(0, way, 3);
        }
        return sum + x.fault() + x.kind(0, 0, 0) + x.rule(0, 0) + x.goes(0, 0, 1) + x.told(0, 7) + x.count(3)
            + x.lives(3, 20, 2) + x.last(3, 2) + x.keep(0) + x.goBack(0);
    }
}
