import java.io.ByteArrayInputStream;
import java.io.DataInputStream;
import java.io.IOException;
import java.io.InputStream;
import java.util.ArrayList;
import java.util.List;
import java.util.Set;
import java.util.TreeSet;

/** What a compiled class calls, makes and changes, method by method. */
final class ClassFile {
    static final class Body {
        final String name;
        /** Methods that it calls, as owner.name with their types. */
        final Set<String> calls = new TreeSet<>();
        /** Static fields that it sets. */
        final Set<String> sets = new TreeSet<>();
        int parameters;
        boolean makes, throwing, catching, locking, dynamic;

        Body(String name) { this.name = name; }
    }

    final List<Body> bodies = new ArrayList<>();
    private Object[] constants;
    private int[] tags;

    ClassFile(Class<?> type) throws IOException {
        String file = type.getName() + ".class";
        try (InputStream stream = type.getClassLoader().getResourceAsStream(file)) {
            read(new DataInputStream(new ByteArrayInputStream(stream.readAllBytes())));
        }
    }

    private void read(DataInputStream in) throws IOException {
        in.skipBytes(8);
        readConstants(in);
        in.skipBytes(2);
        String owner = text(pointed(in.readUnsignedShort()));
        in.skipBytes(2);
        in.skipBytes(2 * in.readUnsignedShort());
        int fields = in.readUnsignedShort();
        for (int i = 0; i < fields; i++) {
            in.skipBytes(6);
            skipAttributes(in);
        }
        int methods = in.readUnsignedShort();
        for (int i = 0; i < methods; i++) {
            readMethod(in, owner);
        }
    }

    private void readConstants(DataInputStream in) throws IOException {
        int size = in.readUnsignedShort();
        constants = new Object[size];
        tags = new int[size];
        for (int i = 1; i < size; i++) {
            tags[i] = in.readUnsignedByte();
            switch (tags[i]) {
                case 1: constants[i] = in.readUTF(); break;
                case 3: case 4: constants[i] = in.readInt(); break;
                case 5: case 6: constants[i] = in.readLong(); i++; break;
                case 7: case 8: case 16: case 19: case 20: constants[i] = in.readUnsignedShort(); break;
                case 15: in.skipBytes(3); break;
                default: constants[i] = new int[] {in.readUnsignedShort(), in.readUnsignedShort()};
            }
        }
    }

    private int pointed(int i) { return (Integer) constants[i]; }

    private String text(int i) { return (String) constants[i]; }

    /** A field or method as owner.name with its types. */
    private String member(int i) {
        int[] both = (int[]) constants[i];
        int[] named = (int[]) constants[both[1]];
        return text(pointed(both[0])) + "." + text(named[0]) + text(named[1]);
    }

    private static void skipAttributes(DataInputStream in) throws IOException {
        int size = in.readUnsignedShort();
        for (int i = 0; i < size; i++) {
            in.skipBytes(2);
            in.skipBytes(in.readInt());
        }
    }

    private void readMethod(DataInputStream in, String owner) throws IOException {
        in.skipBytes(2);
        String name = text(in.readUnsignedShort());
        String types = text(in.readUnsignedShort());
        Body body = new Body(owner + "." + name + types);
        body.parameters = parameters(types);
        int attributes = in.readUnsignedShort();
        for (int i = 0; i < attributes; i++) {
            String attribute = text(in.readUnsignedShort());
            int length = in.readInt();
            if (!attribute.equals("Code")) {
                in.skipBytes(length);
                continue;
            }
            in.skipBytes(4);
            byte[] code = in.readNBytes(in.readInt());
            int caught = in.readUnsignedShort();
            body.catching = caught > 0;
            in.skipBytes(8 * caught);
            skipAttributes(in);
            scan(code, body);
        }
        bodies.add(body);
    }

    private static int parameters(String types) {
        String inside = types.substring(1, types.indexOf(')')).replaceAll("L[^;]*;", "O").replace("[", "");
        return inside.length();
    }

    private static int two(byte[] code, int at) { return (code[at] & 255) << 8 | code[at + 1] & 255; }

    private static int four(byte[] code, int at) { return two(code, at) << 16 | two(code, at + 2); }

    private void scan(byte[] code, Body body) {
        int at = 0;
        while (at < code.length) {
            int op = code[at] & 255;
            switch (op) {
                case 179: body.sets.add(member(two(code, at + 1))); break;
                case 182: case 183: case 184: case 185: body.calls.add(member(two(code, at + 1))); break;
                case 186: body.dynamic = true; break;
                case 187: case 188: case 189: case 197: body.makes = true; break;
                case 191: body.throwing = true; break;
                case 194: case 195: body.locking = true; break;
                default: break;
            }
            at += length(code, at, op);
        }
    }

    private static int length(byte[] code, int at, int op) {
        int even = at + 4 - at % 4;
        if (op == 170) {
            return even + 12 + 4 * (four(code, even + 8) - four(code, even + 4) + 1) - at;
        }
        if (op == 171) {
            return even + 8 + 8 * four(code, even + 4) - at;
        }
        if (op == 196) {
            return (code[at + 1] & 255) == 132 ? 6 : 4;
        }
        if (op == 16 || op == 18 || op >= 21 && op <= 25 || op >= 54 && op <= 58 || op == 169 || op == 188) {
            return 2;
        }
        if (op == 185 || op == 186 || op == 200 || op == 201) {
            return 5;
        }
        if (op == 197) {
            return 4;
        }
        boolean three = op == 17 || op == 19 || op == 20 || op == 132 || op >= 153 && op <= 168 || op >= 178 && op <= 184
            || op == 187 || op == 189 || op == 192 || op == 193 || op == 198 || op == 199;
        return three ? 3 : 1;
    }
}
