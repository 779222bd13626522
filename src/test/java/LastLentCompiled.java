import java.io.DataInputStream;
import java.io.IOException;
import java.io.InputStream;
import java.util.ArrayList;
import java.util.List;
import java.util.Map;
import java.util.Set;
import java.util.TreeMap;
import java.util.TreeSet;

/**
 * The rules of LANGUAGE.md that the compiled class shows: what it uses of the library, that it catches and throws
 * nothing, how deep calls go, and that rows and objects are made in constructors alone.
 */
public final class LastLentCompiled {
    private static final Set<String> LIBRARY = Set.of(
        "java/lang/Object.<init>", "java/lang/System.arraycopy", "java/lang/Math.max", "java/lang/Math.min",
        "java/lang/Math.abs", "java/lang/Integer.compare", "java/lang/String.charAt", "java/lang/String.length");
    private static final int DEEPEST = 8;
    private static final int MOST_CLASSES = 12;
    private static final int TABLE_SWITCH = 0xaa, LOOKUP_SWITCH = 0xab, THROW = 0xbf, WIDE = 0xc4, WIDE_INC = 0x84;

    /** By method: the methods of the class and of those inside it that it calls. */
    private static final Map<String, Set<String>> callsOf = new TreeMap<>();
    private static int wrong = 0;

    public static void main(String[] args) throws IOException {
        List<String> names = new ArrayList<>(List.of("LastLent"));
        for (Class<?> inside : LastLent.class.getDeclaredClasses()) {
            names.add(inside.getName());
        }
        must(names.size() <= MOST_CLASSES, "few classes: " + names);
        for (String name : names) {
            try (InputStream in = LastLent.class.getResourceAsStream(name + ".class")) {
                new Compiled(name, new DataInputStream(in)).look();
            }
        }
        must(callsOf.containsKey("LastLent.hang(IIIII)I"), "the methods are seen");
        int deepest = 0;
        for (String method : callsOf.keySet()) {
            deepest = Math.max(deepest, depth(method, 1));
        }
        must(deepest <= DEEPEST, "calls go at most eight deep: " + deepest);
        System.out.println(callsOf.size() + " methods, calls " + deepest + " deep, " + wrong + " rules broken");
        if (wrong != 0) {
            System.exit(1);
        }
    }

    private static void must(boolean holds, String what) {
        if (!holds) {
            wrong++;
            System.out.println("not so: " + what);
        }
    }

    /** How many calls stand open at once below a method and with it; a call of itself would be too deep. */
    private static int depth(String method, int open) {
        int deepest = 1;
        if (open <= 2 * DEEPEST) {
            for (String called : callsOf.getOrDefault(method, Set.of())) {
                deepest = Math.max(deepest, 1 + depth(called, open + 1));
            }
        }
        return deepest;
    }

    private static final class Compiled {
        final String name;
        final DataInputStream in;
        String[] texts;
        int[] first;
        int[] second;

        Compiled(String name, DataInputStream in) {
            this.name = name;
            this.in = in;
        }

        void look() throws IOException {
            in.skipNBytes(8);
            readConstants();
            in.skipNBytes(6);
            in.skipNBytes(2L * in.readUnsignedShort());
            int fields = in.readUnsignedShort();
            for (int i = 0; i < fields; i++) {
                in.skipNBytes(6);
                skipAttributes();
            }
            int methods = in.readUnsignedShort();
            for (int i = 0; i < methods; i++) {
                lookAtMethod();
            }
        }

        void readConstants() throws IOException {
            int n = in.readUnsignedShort();
            texts = new String[n];
            first = new int[n];
            second = new int[n];
            for (int i = 1; i < n; i++) {
                int tag = in.readUnsignedByte();
                switch (tag) {
                    case 1: texts[i] = in.readUTF(); break;
                    case 3:
                    case 4: in.skipNBytes(4); break;
                    case 5:
                    case 6: in.skipNBytes(8); i++; break;
                    case 7:
                    case 8: first[i] = in.readUnsignedShort(); break;
                    case 9:
                    case 10:
                    case 11:
                    case 12: first[i] = in.readUnsignedShort(); second[i] = in.readUnsignedShort(); break;
                    default: throw new IOException(name + " has a constant that no plain class has, of the kind " + tag);
                }
            }
        }

        void skipAttributes() throws IOException {
            int n = in.readUnsignedShort();
            for (int i = 0; i < n; i++) {
                in.skipNBytes(2);
                in.skipNBytes(in.readInt());
            }
        }

        void lookAtMethod() throws IOException {
            in.skipNBytes(2);
            String bare = texts[in.readUnsignedShort()];
            String method = name + "." + bare + texts[in.readUnsignedShort()];
            int n = in.readUnsignedShort();
            for (int i = 0; i < n; i++) {
                String attribute = texts[in.readUnsignedShort()];
                int length = in.readInt();
                if (attribute.equals("Code")) {
                    in.skipNBytes(4);
                    lookAtCode(method, in.readNBytes(in.readInt()), bare.equals("<init>"));
                    must(in.readUnsignedShort() == 0, method + " catches nothing");
                    skipAttributes();
                } else {
                    in.skipNBytes(length);
                }
            }
        }

        void lookAtCode(String method, byte[] code, boolean makes) {
            Set<String> calls = new TreeSet<>();
            must(!method.contains(".<clinit>"), name + " has no static state to be made");
            for (int at = 0; at < code.length; at += length(code, at)) {
                int op = code[at] & 255;
                must(op != THROW, method + " throws nothing");
                must(op != 0xc0 && op != 0xc1, method + " casts nothing");
                must(op < 0xbb || op > 0xbd && op != 0xc5 || makes, method + " makes nothing, as it is no constructor");
                if (op >= 0xb6 && op <= 0xba) {
                    lookAtCall(method, short2(code, at + 1), calls);
                }
            }
            callsOf.put(method, calls);
        }

        void lookAtCall(String method, int constant, Set<String> calls) {
            String owner = texts[first[first[constant]]];
            String bare = texts[first[second[constant]]];
            if (owner.startsWith("LastLent")) {
                calls.add(owner + "." + bare + texts[second[second[constant]]]);
            } else {
                must(LIBRARY.contains(owner + "." + bare), method + " uses of the library only what it may: " + owner + "." + bare);
            }
        }

        static int short2(byte[] code, int at) {
            return (code[at] & 255) << 8 | code[at + 1] & 255;
        }

        static int int4(byte[] code, int at) {
            return short2(code, at) << 16 | short2(code, at + 2);
        }

        /** Of an instruction, with its numbers. */
        static int length(byte[] code, int at) {
            int op = code[at] & 255;
            int aligned = at + 4 - at % 4;
            switch (op) {
                case TABLE_SWITCH: return aligned + 12 + 4 * (int4(code, aligned + 8) - int4(code, aligned + 4) + 1) - at;
                case LOOKUP_SWITCH: return aligned + 8 + 8 * int4(code, aligned + 4) - at;
                case WIDE: return (code[at + 1] & 255) == WIDE_INC ? 6 : 4;
                case 0x10:
                case 0x12:
                case 0xa9:
                case 0xbc: return 2;
                case 0xc5: return 4;
                case 0xb9:
                case 0xba:
                case 0xc8:
                case 0xc9: return 5;
                default: break;
            }
            boolean oneByte = op >= 0x15 && op <= 0x19 || op >= 0x36 && op <= 0x3a;
            boolean twoBytes = op == 0x11 || op == 0x13 || op == 0x14 || op == WIDE_INC || op >= 0x99 && op <= 0xa8
                || op >= 0xb2 && op <= 0xb8 || op == 0xbb || op == 0xbd || op >= 0xc0 && op <= 0xc1
                || op == 0xc6 || op == 0xc7;
            return oneByte ? 2 : twoBytes ? 3 : 1;
        }
    }
}
