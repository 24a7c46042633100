import java.io.ByteArrayInputStream;
import java.io.DataInputStream;
import java.io.IOException;
import java.util.ArrayList;
import java.util.List;
import java.util.Map;
import java.util.TreeMap;
import java.util.TreeSet;

/** What a compiled class holds: its fields, and for each method what it calls and which opcodes it has. */
final class ClassFile {
    static final int STATIC = 8, FINAL = 16;

    record Field(String name, String type, int access) {
    }

    record Method(String name, TreeSet<String> calls, TreeSet<Integer> opcodes, int handlers) {
    }

    private static final int TABLESWITCH = 170, LOOKUPSWITCH = 171, WIDE = 196, IINC = 132;

    final String name;
    final List<Field> fields = new ArrayList<>();
    final Map<String, Method> methods = new TreeMap<>();
    private final Object[] pool;

    ClassFile(byte[] bytes) throws IOException {
        DataInputStream in = new DataInputStream(new ByteArrayInputStream(bytes));
        in.skipBytes(8);
        pool = readPool(in);
        in.skipBytes(2);
        name = className(in.readUnsignedShort());
        in.skipBytes(2);
        in.skipBytes(2 * in.readUnsignedShort());
        for (int left = in.readUnsignedShort(); left > 0; left--) {
            int access = in.readUnsignedShort();
            fields.add(new Field(text(in.readUnsignedShort()), text(in.readUnsignedShort()), access));
            for (int more = in.readUnsignedShort(); more > 0; more--) {
                in.skipBytes(2);
                in.skipBytes(in.readInt());
            }
        }
        for (int left = in.readUnsignedShort(); left > 0; left--) {
            readMethod(in);
        }
    }

    private static Object[] readPool(DataInputStream in) throws IOException {
        Object[] pool = new Object[in.readUnsignedShort()];
        for (int i = 1; i < pool.length; i++) {
            int tag = in.readUnsignedByte();
            switch (tag) {
                case 1 -> pool[i] = in.readUTF();
                case 3, 4 -> in.skipBytes(4);
                case 5, 6 -> {
                    in.skipBytes(8);
                    i++;
                }
                case 7, 8, 16, 19, 20 -> pool[i] = new int[] {in.readUnsignedShort()};
                case 15 -> in.skipBytes(3);
                default -> pool[i] = new int[] {in.readUnsignedShort(), in.readUnsignedShort()};
            }
        }
        return pool;
    }

    private String text(int index) {
        return (String) pool[index];
    }

    private String className(int index) {
        return text(((int[]) pool[index])[0]);
    }

    private String reference(int index) {
        int[] pair = (int[]) pool[index];
        int[] what = (int[]) pool[pair[1]];
        return className(pair[0]) + "." + text(what[0]) + text(what[1]);
    }

    private void readMethod(DataInputStream in) throws IOException {
        in.skipBytes(2);
        String of = name + "." + text(in.readUnsignedShort()) + text(in.readUnsignedShort());
        for (int left = in.readUnsignedShort(); left > 0; left--) {
            boolean isCode = text(in.readUnsignedShort()).equals("Code");
            byte[] content = in.readNBytes(in.readInt());
            if (isCode) {
                methods.put(of, readCode(of, content));
            }
        }
    }

    private Method readCode(String of, byte[] content) throws IOException {
        DataInputStream in = new DataInputStream(new ByteArrayInputStream(content));
        in.skipBytes(4);
        byte[] code = in.readNBytes(in.readInt());
        Method method = new Method(of, new TreeSet<>(), new TreeSet<>(), in.readUnsignedShort());
        for (int at = 0; at < code.length; at += length(code, at)) {
            int opcode = code[at] & 255;
            method.opcodes().add(opcode);
            if (opcode >= 182 && opcode <= 185) {
                method.calls().add(reference((code[at + 1] & 255) << 8 | code[at + 2] & 255));
            }
        }
        return method;
    }

    private static int number(byte[] code, int at) {
        return code[at] << 24 | (code[at + 1] & 255) << 16 | (code[at + 2] & 255) << 8 | code[at + 3] & 255;
    }

    private static int length(byte[] code, int at) {
        int opcode = code[at] & 255;
        int table = (at / 4 + 1) * 4;
        switch (opcode) {
            case TABLESWITCH: return table + 12 + 4 * (number(code, table + 8) - number(code, table + 4) + 1) - at;
            case LOOKUPSWITCH: return table + 8 + 8 * number(code, table + 4) - at;
            case WIDE: return (code[at + 1] & 255) == IINC ? 6 : 4;
            case 16: case 18: case 169: case 188: return 2;
            case 197: return 4;
            case 185: case 186: case 200: case 201: return 5;
            case 17: case 19: case 20: case IINC: case 187: case 189: case 192: case 193: case 198: case 199:
                return 3;
            default: break;
        }
        if (opcode >= 21 && opcode <= 25 || opcode >= 54 && opcode <= 58) {
            return 2;
        }
        return opcode >= 153 && opcode <= 168 || opcode >= 178 && opcode <= 184 ? 3 : 1;
    }
}
