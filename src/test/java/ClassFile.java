import java.io.ByteArrayInputStream;
import java.io.DataInputStream;
import java.io.IOException;
import java.util.ArrayList;
import java.util.List;

/** As much of a compiled class as the rules ask about: what each method calls, and whether it makes or throws. */
final class ClassFile {
    /** What one method does; calls are told as owner.name(descriptor). */
    static final class Code {
        final String name;
        final List<String> calls = new ArrayList<>();
        boolean makes, doesThrow, catches, locks, isDynamic;

        Code(String name) {
            this.name = name;
        }
    }

    private static final int ATHROW = 0xbf, NEW = 0xbb, NEW_ARRAY = 0xbc, NEW_OBJECTS = 0xbd, NEW_TABLE = 0xc5;
    private static final int FIRST_INVOKE = 0xb6, LAST_INVOKE = 0xb9, DYNAMIC = 0xba, LOCK = 0xc2, UNLOCK = 0xc3;
    private static final int TABLE_SWITCH = 0xaa, LOOKUP_SWITCH = 0xab, WIDE = 0xc4, WIDE_INC = 0x84;

    final String name;
    final List<Code> methods = new ArrayList<>();
    private final Object[] pool;

    ClassFile(byte[] bytes) throws IOException {
        DataInputStream in = new DataInputStream(new ByteArrayInputStream(bytes));
        in.skipBytes(8);
        pool = new Object[in.readUnsignedShort()];
        for (int i = 1; i < pool.length; i++) {
            i += readConstant(in, i);
        }
        in.readUnsignedShort();
        name = text(in.readUnsignedShort());
        in.readUnsignedShort();
        in.skipBytes(2 * in.readUnsignedShort());
        readMembers(in, false);
        readMembers(in, true);
    }

    /** Answers how many places more than one the constant takes. */
    private int readConstant(DataInputStream in, int i) throws IOException {
        int tag = in.readUnsignedByte();
        switch (tag) {
            case 1:
                pool[i] = in.readUTF();
                return 0;
            case 7, 8, 16, 19, 20:
                pool[i] = new int[] {in.readUnsignedShort()};
                return 0;
            case 9, 10, 11, 12, 17, 18:
                pool[i] = new int[] {in.readUnsignedShort(), in.readUnsignedShort()};
                return 0;
            case 3, 4:
                in.skipBytes(4);
                return 0;
            case 5, 6:
                in.skipBytes(8);
                return 1;
            case 15:
                in.skipBytes(3);
                return 0;
            default:
                throw new IOException("a constant of kind " + tag);
        }
    }

    private String text(int i) {
        return pool[i] instanceof int[] at ? text(at[0]) : (String) pool[i];
    }

    private String called(int i) {
        int[] reference = (int[]) pool[i];
        int[] nameAndType = (int[]) pool[reference[1]];
        return text(reference[0]) + "." + text(nameAndType[0]) + text(nameAndType[1]);
    }

    private void readMembers(DataInputStream in, boolean methodsComing) throws IOException {
        int many = in.readUnsignedShort();
        for (int m = 0; m < many; m++) {
            in.readUnsignedShort();
            Code code = new Code(name + "." + text(in.readUnsignedShort()) + text(in.readUnsignedShort()));
            int attributes = in.readUnsignedShort();
            for (int a = 0; a < attributes; a++) {
                String kind = text(in.readUnsignedShort());
                byte[] content = new byte[in.readInt()];
                in.readFully(content);
                if (kind.equals("Code")) {
                    readCode(code, content);
                }
            }
            if (methodsComing) {
                methods.add(code);
            }
        }
    }

    private void readCode(Code code, byte[] content) {
        int end = 8 + four(content, 4);
        for (int at = 8; at < end; ) {
            int op = content[at] & 255;
            code.makes |= op == NEW || op == NEW_ARRAY || op == NEW_OBJECTS || op == NEW_TABLE;
            code.doesThrow |= op == ATHROW;
            code.locks |= op == LOCK || op == UNLOCK;
            code.isDynamic |= op == DYNAMIC;
            if (op >= FIRST_INVOKE && op <= LAST_INVOKE) {
                code.calls.add(called(two(content, at + 1)));
            }
            at += length(content, at, op);
        }
        code.catches = two(content, end) > 0;
    }

    private static int two(byte[] content, int at) {
        return (content[at] & 255) << 8 | content[at + 1] & 255;
    }

    private static int four(byte[] content, int at) {
        return two(content, at) << 16 | two(content, at + 2);
    }

    private static int length(byte[] content, int at, int op) {
        if (op == TABLE_SWITCH || op == LOOKUP_SWITCH) {
            // Its numbers begin at the next place, counted from the code's first byte, that four divides.
            int from = at + 1 + (3 - (at - 8) % 4);
            int words = op == LOOKUP_SWITCH ? 2 + 2 * four(content, from + 4)
                : 4 + four(content, from + 8) - four(content, from + 4);
            return from + 4 * words - at;
        }
        if (op == WIDE) {
            return (content[at + 1] & 255) == WIDE_INC ? 6 : 4;
        }
        if (op == 0x10 || op == 0x12 || op >= 0x15 && op <= 0x19 || op >= 0x36 && op <= 0x3a || op == 0xa9 || op == NEW_ARRAY) {
            return 2;
        }
        if (op == 0x11 || op == 0x13 || op == 0x14 || op == 0x84 || op >= 0x99 && op <= 0xa8 || op >= 0xb2 && op <= 0xb8
            || op == NEW || op == NEW_OBJECTS || op == 0xc0 || op == 0xc1 || op == 0xc6 || op == 0xc7) {
            return 3;
        }
        if (op == NEW_TABLE) {
            return 4;
        }
        return op == LAST_INVOKE || op == DYNAMIC || op == 0xc8 || op == 0xc9 ? 5 : 1;
    }
}
