import java.io.DataInputStream;
import java.io.IOException;
import java.io.InputStream;
import java.util.ArrayList;
import java.util.List;
import java.util.TreeSet;

/** What stands in a class as javac made it: its members, what they call, and what its constants name. */
final class ClassFile {
    /** A method, with the names of the methods that it calls. */
    static final class Method {
        String name;
        boolean isStatic;
        final List<String> calls = new ArrayList<>();
        boolean catches;
        boolean isThrowing;
    }

    private static final int INVOKE_FIRST = 182;
    private static final int INVOKE_LAST = 186;
    private static final int ATHROW = 191;
    private static final int TABLE_SWITCH = 170;
    private static final int LOOKUP_SWITCH = 171;
    private static final int WIDE = 196;
    private static final int IINC = 132;

    final List<Method> methods = new ArrayList<>();
    final List<String> texts = new ArrayList<>();
    /** The classes that it names, and the types of its own fields and methods. */
    final TreeSet<String> classes = new TreeSet<>();
    final TreeSet<String> types = new TreeSet<>();
    /** The kinds of its constants: 15 to 18 stand there for lambdas and texts joined by +. */
    final TreeSet<Integer> kinds = new TreeSet<>();
    private int[] kindAt;
    private int[] first;
    private int[] second;
    private String[] text;

    static ClassFile of(Class<?> which) {
        try (InputStream in = which.getResourceAsStream("/" + which.getName() + ".class")) {
            return new ClassFile(new DataInputStream(in));
        } catch (IOException e) {
            throw new IllegalStateException(e);
        }
    }

    private ClassFile(DataInputStream in) throws IOException {
        in.readInt();
        in.readInt();
        readConstants(in);
        in.skipBytes(6);
        in.skipBytes(2 * in.readUnsignedShort());
        for (int i = in.readUnsignedShort(); i > 0; i--) {
            in.readUnsignedShort();
            in.readUnsignedShort();
            types.add(text[in.readUnsignedShort()]);
            skipAttributes(in);
        }
        for (int i = in.readUnsignedShort(); i > 0; i--) {
            readMethod(in);
        }
    }

    private void readConstants(DataInputStream in) throws IOException {
        int size = in.readUnsignedShort();
        kindAt = new int[size];
        first = new int[size];
        second = new int[size];
        text = new String[size];
        for (int i = 1; i < size; i++) {
            int kind = in.readUnsignedByte();
            kinds.add(kind);
            kindAt[i] = kind;
            switch (kind) {
                case 1:
                    text[i] = in.readUTF();
                    break;
                case 5:
                case 6:
                    in.readLong();
                    i++;
                    break;
                case 7:
                case 8:
                case 16:
                case 19:
                case 20:
                    first[i] = in.readUnsignedShort();
                    break;
                case 15:
                    first[i] = in.readUnsignedByte();
                    second[i] = in.readUnsignedShort();
                    break;
                default:
                    first[i] = in.readUnsignedShort();
                    second[i] = in.readUnsignedShort();
            }
        }
        for (int i = 1; i < size; i++) {
            if (kindAt[i] == 7) {
                classes.add(text[first[i]]);
            } else if (kindAt[i] == 8) {
                texts.add(text[first[i]]);
            }
        }
    }

    private static void skipAttributes(DataInputStream in) throws IOException {
        for (int i = in.readUnsignedShort(); i > 0; i--) {
            in.readUnsignedShort();
            in.skipBytes(in.readInt());
        }
    }

    private void readMethod(DataInputStream in) throws IOException {
        Method method = new Method();
        method.isStatic = (in.readUnsignedShort() & 8) != 0;
        String name = text[in.readUnsignedShort()];
        String type = text[in.readUnsignedShort()];
        types.add(type);
        method.name = name + type;
        for (int i = in.readUnsignedShort(); i > 0; i--) {
            String attribute = text[in.readUnsignedShort()];
            int length = in.readInt();
            if (attribute.equals("Code")) {
                in.readInt();
                byte[] code = new byte[in.readInt()];
                in.readFully(code);
                readCode(code, method);
                int handlers = in.readUnsignedShort();
                method.catches = handlers > 0;
                in.skipBytes(8 * handlers);
                skipAttributes(in);
            } else {
                in.skipBytes(length);
            }
        }
        methods.add(method);
    }

    private void readCode(byte[] code, Method method) {
        int at = 0;
        while (at < code.length) {
            int operation = code[at] & 255;
            method.isThrowing |= operation == ATHROW;
            if (operation >= INVOKE_FIRST && operation <= INVOKE_LAST) {
                method.calls.add(nameOf(two(code, at + 1)));
            }
            at = behind(code, at, operation);
        }
    }

    /** The class, the name and the type of a method that is called. */
    private String nameOf(int constant) {
        String owner = kindAt[constant] == 18 ? "dynamic" : text[first[first[constant]]];
        int nameAndType = second[constant];
        return owner + "." + text[first[nameAndType]] + text[second[nameAndType]];
    }

    private static int two(byte[] code, int at) {
        return (code[at] & 255) << 8 | code[at + 1] & 255;
    }

    private static int four(byte[] code, int at) {
        return two(code, at) << 16 | two(code, at + 2);
    }

    private static int behind(byte[] code, int at, int operation) {
        int aligned = at + 4 - at % 4;
        if (operation == TABLE_SWITCH) {
            return aligned + 12 + 4 * (four(code, aligned + 8) - four(code, aligned + 4) + 1);
        }
        if (operation == LOOKUP_SWITCH) {
            return aligned + 8 + 8 * four(code, aligned + 4);
        }
        if (operation == WIDE) {
            return at + ((code[at + 1] & 255) == IINC ? 6 : 4);
        }
        return at + 1 + operands(operation);
    }

    /** How many bytes stand behind an operation of no switch. */
    private static int operands(int operation) {
        if (operation == 16 || operation == 18 || operation >= 21 && operation <= 25
                || operation >= 54 && operation <= 58 || operation == 169 || operation == 188) {
            return 1;
        }
        if (operation == 185 || operation == 186 || operation == 200 || operation == 201) {
            return 4;
        }
        if (operation == 197) {
            return 3;
        }
        boolean two = operation == 17 || operation == 19 || operation == 20 || operation == IINC
            || operation >= 153 && operation <= 168 || operation >= 178 && operation <= 184 || operation == 187
            || operation == 189 || operation == 192 || operation == 193 || operation == 198 || operation == 199;
        return two ? 2 : 0;
    }
}
