import java.io.DataInputStream;
import java.io.IOException;
import java.io.InputStream;
import java.util.ArrayList;
import java.util.HashMap;
import java.util.List;
import java.util.Map;
import java.util.Set;
import java.util.TreeSet;

/** What a class file says of its methods: whom they call, what they make, which instructions they have. */
final class Bytecode {
    static final int NEW = 187, NEWARRAY = 188, ANEWARRAY = 189, ATHROW = 191, CHECKCAST = 192, MONITORENTER = 194;
    static final int MULTIANEWARRAY = 197, INVOKEDYNAMIC = 186;
    private static final int TABLESWITCH = 170, LOOKUPSWITCH = 171, WIDE = 196, IINC = 132;

    static final class Member {
        final String name;
        final Set<String> calls = new TreeSet<>();
        final Set<Integer> instructions = new TreeSet<>();
        int handlers;
        int parameters;

        Member(String name) {
            this.name = name;
        }
    }

    final List<Member> methods = new ArrayList<>();
    final List<String> fields = new ArrayList<>();
    private final Map<Integer, String> texts = new HashMap<>();
    private final Map<Integer, int[]> pairs = new HashMap<>();
    private String className = "";

    static Bytecode of(Class<?> c) throws IOException {
        String file = c.getName() + ".class";
        try (InputStream in = Bytecode.class.getResourceAsStream("/" + file)) {
            Bytecode b = new Bytecode();
            b.read(new DataInputStream(in));
            return b;
        }
    }

    private void read(DataInputStream in) throws IOException {
        in.readInt();
        in.readInt();
        readConstants(in);
        in.readUnsignedShort();
        className = nameOf(in.readUnsignedShort());
        in.readUnsignedShort();
        in.skipBytes(2 * in.readUnsignedShort());
        readMembers(in, false);
        readMembers(in, true);
    }

    private void readConstants(DataInputStream in) throws IOException {
        int count = in.readUnsignedShort();
        for (int i = 1; i < count; i++) {
            int tag = in.readUnsignedByte();
            switch (tag) {
                case 1: texts.put(i, in.readUTF()); break;
                case 3: case 4: in.readInt(); break;
                case 5: case 6: in.readLong(); i++; break;
                case 7: case 8: case 16: case 19: case 20: pairs.put(i, new int[] {in.readUnsignedShort(), 0}); break;
                case 15: in.skipBytes(3); break;
                default: pairs.put(i, new int[] {in.readUnsignedShort(), in.readUnsignedShort()});
            }
        }
    }

    private String nameOf(int classConstant) {
        return texts.get(pairs.get(classConstant)[0]);
    }

    private void readMembers(DataInputStream in, boolean areMethods) throws IOException {
        int count = in.readUnsignedShort();
        for (int i = 0; i < count; i++) {
            in.readUnsignedShort();
            String name = texts.get(in.readUnsignedShort());
            String type = texts.get(in.readUnsignedShort());
            Member m = new Member(className + "." + name);
            int attributes = in.readUnsignedShort();
            for (int k = 0; k < attributes; k++) {
                String attribute = texts.get(in.readUnsignedShort());
                byte[] bytes = new byte[in.readInt()];
                in.readFully(bytes);
                if (attribute.equals("Code")) {
                    readCode(bytes, m);
                }
            }
            if (areMethods) {
                m.parameters = parametersOf(type);
                methods.add(m);
            } else {
                fields.add(type);
            }
        }
    }

    private static int parametersOf(String type) {
        return type.substring(1, type.indexOf(')')).replaceAll("\\[*(L[^;]*;|[A-Z])", "x").length();
    }

    private void readCode(byte[] code, Member m) {
        int size = intAt(code, 4);
        int at = 8;
        int end = 8 + size;
        while (at < end) {
            int op = code[at] & 255;
            m.instructions.add(op);
            if (op >= 182 && op <= 185) {
                m.calls.add(methodOf(shortAt(code, at + 1)));
            }
            at += lengthOf(code, at, op);
        }
        m.handlers = shortAt(code, end);
    }

    private String methodOf(int constant) {
        int[] both = pairs.get(constant);
        return nameOf(both[0]) + "." + texts.get(pairs.get(both[1])[0]);
    }

    private static int lengthOf(byte[] code, int at, int op) {
        int padded = at + 4 - (at - 8) % 4;
        switch (op) {
            case TABLESWITCH: return padded - at + 12 + 4 * (intAt(code, padded + 8) - intAt(code, padded + 4) + 1);
            case LOOKUPSWITCH: return padded - at + 8 + 8 * intAt(code, padded + 4);
            case WIDE: return (code[at + 1] & 255) == IINC ? 6 : 4;
            default: return 1 + operandsOf(op);
        }
    }

    /** How many bytes stand behind an instruction that is neither a switch nor wide. */
    private static int operandsOf(int op) {
        boolean isLoadOrStore = op >= 21 && op <= 25 || op >= 54 && op <= 58;
        if (op == 16 || op == 18 || isLoadOrStore || op == 169 || op == NEWARRAY) {
            return 1;
        }
        boolean isJump = op >= 153 && op <= 168 || op == 198 || op == 199;
        boolean isOfAMember = op >= 178 && op <= 184;
        boolean isOfAClass = op == NEW || op == ANEWARRAY || op == CHECKCAST || op == 193;
        if (op == 17 || op == 19 || op == 20 || op == IINC || isJump || isOfAMember || isOfAClass) {
            return 2;
        }
        if (op == MULTIANEWARRAY) {
            return 3;
        }
        return op == 185 || op == INVOKEDYNAMIC || op == 200 || op == 201 ? 4 : 0;
    }

    private static int shortAt(byte[] b, int at) {
        return (b[at] & 255) << 8 | b[at + 1] & 255;
    }

    private static int intAt(byte[] b, int at) {
        return shortAt(b, at) << 16 | shortAt(b, at + 2);
    }
}
