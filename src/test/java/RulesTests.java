import java.io.DataInputStream;
import java.io.IOException;
import java.io.InputStream;
import java.lang.reflect.Field;
import java.lang.reflect.Method;
import java.lang.reflect.Modifier;
import java.nio.charset.StandardCharsets;
import java.nio.file.Files;
import java.nio.file.Path;
import java.util.ArrayList;
import java.util.List;
import java.util.Set;
import java.util.TreeSet;
import java.util.regex.Matcher;
import java.util.regex.Pattern;

/** The rules of ../shared/LANGUAGE.md that a text or a class file tells of: what is used of the library, and how much of all. */
public final class RulesTests {
    private static final String SOURCE = "src/main/java/CardBridge.java";
    /** Rule 4; rule 6 for the exceptions, which are made only. */
    private static final Pattern LIBRARY = Pattern.compile("java/lang/Object\\.<init>"
            + "|java/lang/String\\.(length|charAt|isEmpty|equals|indexOf|substring|toCharArray|<init>)"
            + "|java/lang/StringBuilder\\.(<init>|append|charAt|setCharAt|setLength|deleteCharAt|reverse|length|toString)"
            + "|java/util/(ArrayList|List)\\.(<init>|add|get|set|remove|size|isEmpty|clear|of)"
            + "|java/lang/(Integer|Long|Math)\\.(compare|max|min|abs|bitCount|floorDiv|floorMod|valueOf|intValue)"
            + "|java/lang/System\\.arraycopy|java/util/Arrays\\.(copyOf|copyOfRange|fill)"
            + "|java/lang/(IllegalState|IllegalArgument|IndexOutOfBounds|Arithmetic|UnsupportedOperation|Runtime)Exception\\.<init>"
            + "|java/util/NoSuchElementException\\.<init>");
    private static final Set<String> FORBIDDEN = Set.of("import", "package", "catch", "try", "finally", "synchronized", "assert",
            "volatile", "native", "transient", "hashCode", "toString", "getMessage", "protected", "System", "Random", "Thread");

    public static void main(String[] args) throws IOException {
        List<Class<?>> classes = new ArrayList<>(List.of(CardBridge.class.getDeclaredClasses()));
        classes.add(CardBridge.class);
        Check.isTrue("classes are some twelve at most", classes.size() <= 12);
        for (Class<?> one : classes) {
            library(one);
            sizes(one);
        }
        source(Files.readString(Path.of(SOURCE), StandardCharsets.ISO_8859_1));
        Check.end("RulesTests");
    }

    /** Rule 11: at most seven parameters, some twenty fields beside constants. Rule 5: what is static is a constant. */
    private static void sizes(Class<?> one) {
        int fields = 0;
        for (Field field : one.getDeclaredFields()) {
            boolean isStatic = Modifier.isStatic(field.getModifiers());
            fields += isStatic ? 0 : 1;
            Check.isTrue(field + " is a constant or no static field",
                    !isStatic || Modifier.isFinal(field.getModifiers())
                            && (field.getType().isPrimitive() || field.getType() == String.class));
        }
        Check.isTrue(one + " has at most 20 fields", fields <= 20);
        for (Method method : one.getDeclaredMethods()) {
            Check.isTrue(method + " takes at most 7 parameters", method.getParameterCount() <= 7);
        }
    }

    private static void source(String text) {
        for (int i = 0; i < text.length(); i++) {
            char sign = text.charAt(i);
            if (sign != '\n' && (sign < ' ' || sign > '~')) {
                Check.same("a sign of the source at " + i, sign, ' ');
            }
        }
        String bare = text.replaceAll("(?s)/\\*.*?\\*/", "").replaceAll("//[^\n]*", "").replaceAll("\"[^\"\n]*\"", "\"\"")
                .replaceAll("'.'|'\\\\.'", "0");
        Check.isFalse("no lambda", bare.contains("->"));
        Check.isFalse("no method reference", bare.contains("::"));
        TreeSet<String> found = new TreeSet<>();
        Matcher words = Pattern.compile("[A-Za-z]+").matcher(bare);
        while (words.find()) {
            if (FORBIDDEN.contains(words.group())) {
                found.add(words.group());
            }
        }
        Check.isTrue("forbidden words: " + found, found.isEmpty());
        Matcher thrown = Pattern.compile("throw (?!new (IllegalStateException|IllegalArgumentException|IndexOutOfBoundsException)"
                + "\\((\"\")?\\);)[^;]*;").matcher(bare);
        Check.isFalse("only exceptions with written texts are thrown", thrown.find());
        lengths(text);
    }

    /** Methods stay short, some sixty lines. */
    private static void lengths(String text) {
        int begin = -1;
        String[] lines = text.split("\n");
        for (int i = 0; i < lines.length; i++) {
            if (lines[i].matches("( {4}| {8})(public |private |static |final )*[A-Za-z\\[\\]]+( \\w+)?\\(.*\\{")) {
                begin = i;
            }
            if (begin >= 0 && lines[i].matches("( {4}| {8})\\}")) {
                Check.isTrue("the method at line " + (begin + 1) + " has at most 60 lines", i - begin < 60);
                begin = -1;
            }
        }
    }

    /** Looks at what a class file calls: the constants of its pool, as Java's specification lays them out. */
    private static void library(Class<?> one) throws IOException {
        try (InputStream file = CardBridge.class.getResourceAsStream("/" + one.getName() + ".class");
                DataInputStream in = new DataInputStream(file)) {
            in.skipBytes(8);
            int size = in.readUnsignedShort();
            int[] tags = new int[size];
            int[][] parts = new int[size][2];
            String[] texts = new String[size];
            for (int i = 1; i < size; i++) {
                tags[i] = in.readUnsignedByte();
                switch (tags[i]) {
                    case 1:
                        texts[i] = in.readUTF();
                        break;
                    case 5:
                    case 6:
                        in.readLong();
                        i++;
                        break;
                    case 3:
                    case 4:
                        in.readInt();
                        break;
                    case 7:
                    case 8:
                    case 16:
                    case 19:
                    case 20:
                        parts[i][0] = in.readUnsignedShort();
                        break;
                    case 15:
                        in.readUnsignedByte();
                        in.readUnsignedShort();
                        break;
                    default:
                        parts[i][0] = in.readUnsignedShort();
                        parts[i][1] = in.readUnsignedShort();
                        break;
                }
            }
            for (int i = 1; i < size; i++) {
                Check.isTrue(one + " has no lambda, and joins no texts by +", tags[i] != 15 && tags[i] != 16 && tags[i] != 18);
                if (tags[i] >= 9 && tags[i] <= 11) {
                    String called = texts[parts[parts[i][0]][0]] + "." + texts[parts[parts[i][1]][0]];
                    Check.isTrue(one + " uses " + called, called.startsWith("CardBridge") || LIBRARY.matcher(called).matches());
                }
            }
        }
    }
}
