import java.io.DataInputStream;
import java.io.IOException;
import java.io.InputStream;
import java.util.TreeSet;

/** The fields and methods that a compiled class names, read from its constant pool. */
final class ClassFile {
    private static final int TEXT = 1;
    private static final int LONG = 5;
    private static final int DOUBLE = 6;
    private static final int CLASS = 7;
    private static final int STRING = 8;
    private static final int FIELD = 9;
    private static final int METHOD = 10;
    private static final int INTERFACE_METHOD = 11;
    private static final int NAME_AND_TYPE = 12;
    private static final int METHOD_TYPE = 16;
    private static final int FIRST_DYNAMIC = 17;

    final TreeSet<String> members = new TreeSet<>();
    /** Lambdas, method references and texts joined by + are dynamic. */
    boolean dynamic = false;

    private final String[] texts;
    private final int[] tags;
    private final int[] first;
    private final int[] second;

    ClassFile(InputStream bytes) throws IOException {
        DataInputStream in = new DataInputStream(bytes);
        in.skipBytes(8);
        int count = in.readUnsignedShort();
        texts = new String[count];
        tags = new int[count];
        first = new int[count];
        second = new int[count];
        for (int index = 1; index < count; index++) {
            readEntry(in, index);
            if (tags[index] == LONG || tags[index] == DOUBLE) {
                index++;
            }
        }
        for (int index = 1; index < count; index++) {
            if (tags[index] == FIELD || tags[index] == METHOD || tags[index] == INTERFACE_METHOD) {
                String owner = texts[first[first[index]]];
                int nameAndType = second[index];
                members.add(owner + "." + texts[first[nameAndType]] + " " + texts[second[nameAndType]]);
            }
        }
    }

    private void readEntry(DataInputStream in, int index) throws IOException {
        tags[index] = in.readUnsignedByte();
        switch (tags[index]) {
            case TEXT:
                texts[index] = in.readUTF();
                break;
            case LONG:
            case DOUBLE:
                in.skipBytes(8);
                break;
            case CLASS:
            case STRING:
            case METHOD_TYPE:
                first[index] = in.readUnsignedShort();
                break;
            case FIELD:
            case METHOD:
            case INTERFACE_METHOD:
            case NAME_AND_TYPE:
                first[index] = in.readUnsignedShort();
                second[index] = in.readUnsignedShort();
                break;
            default:
                readRareEntry(in, index);
                break;
        }
    }

    private void readRareEntry(DataInputStream in, int index) throws IOException {
        if (tags[index] == 15) {
            in.skipBytes(3);
        } else if (tags[index] == 19 || tags[index] == 20) {
            in.skipBytes(2);
        } else {
            in.skipBytes(4);
            dynamic |= tags[index] >= FIRST_DYNAMIC;
        }
    }
}
