import java.io.DataInputStream;
import java.io.IOException;
import java.io.InputStream;
import java.util.ArrayList;
import java.util.List;

/** Rule 4 of LANGUAGE.md, told from the compiled classes: what they use of the library, by its name. */
public final class LibraryTest {
    private static final int TEXT = 1;
    private static final int INT = 3;
    private static final int FLOAT = 4;
    private static final int LONG = 5;
    private static final int DOUBLE = 6;
    private static final int FIELD_OF = 9;
    private static final int METHOD_OF = 10;
    private static final int INTERFACE_METHOD_OF = 11;
    private static final int NAME_AND_TYPE = 12;
    private static final int METHOD_HANDLE = 15;
    private static final int DYNAMIC = 17;
    private static final int INVOKE_DYNAMIC = 18;

    private static final String[] ALLOWED = {
        "java/lang/Object\\.<init>",
        "java/lang/String\\.(<init>|length|charAt|isEmpty|equals|indexOf|substring|toCharArray)",
        "java/lang/StringBuilder\\.(<init>|append|charAt|setCharAt|setLength|deleteCharAt|reverse|length|toString)",
        "java/util/(ArrayList|List)\\.(<init>|add|get|set|remove|size|isEmpty|clear|iterator|of)",
        "java/lang/(Integer|Long|Math)\\.(?!.*Exact$)\\w+", "java/lang/System\\.arraycopy",
        "java/util/Arrays\\.(copyOf|copyOfRange|fill)", "java/util/Iterator\\.(hasNext|next)",
        "java/lang/(Enum|Record)\\.<init>", "\\[[BCDFIJSZ]\\.clone",
    };
    private static final Checks CHECKS = new Checks();

    private final int[] tags;
    private final int[] first;
    private final int[] second;
    private final String[] texts;

    public static void main(String[] args) throws IOException {
        List<Class<?>> classes = new ArrayList<>(List.of(SkewBoard.class.getDeclaredClasses()));
        classes.add(SkewBoard.class);
        for (Class<?> one : classes) {
            try (InputStream bytes = one.getResourceAsStream(one.getName() + ".class")) {
                new LibraryTest(new DataInputStream(bytes)).look(one.getName());
            }
        }
        CHECKS.end("LibraryTest");
    }

    /** Reads the pool of constants, where every method that the class calls has its name. */
    private LibraryTest(DataInputStream in) throws IOException {
        in.readInt();
        in.readInt();
        int size = in.readUnsignedShort();
        tags = new int[size];
        first = new int[size];
        second = new int[size];
        texts = new String[size];
        for (int at = 1; at < size; at++) {
            tags[at] = in.readUnsignedByte();
            readConstant(in, at);
            // the pool gives a long or a double two places
            at += tags[at] == LONG || tags[at] == DOUBLE ? 1 : 0;
        }
    }

    private void readConstant(DataInputStream in, int at) throws IOException {
        switch (tags[at]) {
            case TEXT:
                texts[at] = in.readUTF();
                break;
            case LONG:
            case DOUBLE:
                in.readLong();
                break;
            case METHOD_HANDLE:
                first[at] = in.readUnsignedByte();
                second[at] = in.readUnsignedShort();
                break;
            case FIELD_OF:
            case METHOD_OF:
            case INTERFACE_METHOD_OF:
            case NAME_AND_TYPE:
            case DYNAMIC:
            case INVOKE_DYNAMIC:
                first[at] = in.readUnsignedShort();
                second[at] = in.readUnsignedShort();
                break;
            case INT:
            case FLOAT:
                in.readInt();
                break;
            default:
                first[at] = in.readUnsignedShort();
                break;
        }
    }

    private void look(String name) {
        for (int at = 1; at < tags.length; at++) {
            boolean dynamic = tags[at] == METHOD_HANDLE || tags[at] == DYNAMIC || tags[at] == INVOKE_DYNAMIC;
            CHECKS.isTrue(name + " joins no texts by +, and has no lambda", !dynamic);
            if (tags[at] == FIELD_OF || tags[at] == METHOD_OF || tags[at] == INTERFACE_METHOD_OF) {
                String used = texts[first[first[at]]] + "." + texts[first[second[at]]];
                CHECKS.isTrue(name + " may use " + used, isAllowed(used));
            }
        }
    }

    private static boolean isAllowed(String used) {
        if (used.matches("SkewBoard(\\$\\w+)?\\..*")) {
            return true;
        }
        for (String pattern : ALLOWED) {
            if (used.matches(pattern)) {
                return true;
            }
        }
        return false;
    }
}
