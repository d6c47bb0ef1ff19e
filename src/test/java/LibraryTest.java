import java.io.DataInputStream;
import java.io.IOException;
import java.io.InputStream;
import java.io.UncheckedIOException;
import java.util.ArrayList;
import java.util.List;
import java.util.Set;

/** What the compiled class uses of the library, read from its class files: rule 4 of LANGUAGE.md. */
final class LibraryTest {
    private static final Set<String> ALLOWED = Set.of(
        "String.length", "String.charAt", "String.isEmpty", "String.equals", "String.indexOf", "String.substring",
        "String.toCharArray", "String.<init>", "StringBuilder.<init>", "StringBuilder.append", "StringBuilder.charAt",
        "StringBuilder.setCharAt", "StringBuilder.setLength", "StringBuilder.deleteCharAt", "StringBuilder.reverse",
        "StringBuilder.length", "StringBuilder.toString", "System.arraycopy", "Integer.bitCount", "Integer.compare",
        "Long.compare", "Math.min", "Math.max", "Math.abs", "Math.floorDiv", "Math.floorMod", "Object.<init>",
        "IllegalStateException.<init>", "IllegalArgumentException.<init>", "IndexOutOfBoundsException.<init>");

    private LibraryTest() { }

    static void run() {
        for (Class<?> one : classes()) {
            Check.test("the library in " + one.getName(), () -> library(one));
        }
    }

    private static List<Class<?>> classes() {
        List<Class<?>> classes = new ArrayList<>(List.of(DyeVats.class.getDeclaredClasses()));
        classes.add(DyeVats.class);
        return classes;
    }

    private static void library(Class<?> one) {
        try (InputStream file = one.getResourceAsStream(one.getName() + ".class")) {
            DataInputStream in = new DataInputStream(file);
            in.readInt();
            in.readInt();
            new Pool(in).check();
        } catch (IOException e) {
            throw new UncheckedIOException(e);
        }
    }

    /** The constants of a class file: its texts, and entries that name one or two others. */
    private static final class Pool {
        private final String[] texts;
        private final int[] tags;
        private final int[] first;
        private final int[] second;

        Pool(DataInputStream in) throws IOException {
            int count = in.readUnsignedShort();
            texts = new String[count];
            tags = new int[count];
            first = new int[count];
            second = new int[count];
            for (int i = 1; i < count; i++) {
                tags[i] = in.readUnsignedByte();
                switch (tags[i]) {
                    case 1 -> texts[i] = in.readUTF();
                    case 3, 4 -> in.readInt();
                    case 5, 6 -> {
                        in.readLong();
                        i++;
                    }
                    case 7, 8, 16, 19, 20 -> first[i] = in.readUnsignedShort();
                    case 15 -> {
                        in.readUnsignedByte();
                        in.readUnsignedShort();
                    }
                    default -> {
                        first[i] = in.readUnsignedShort();
                        second[i] = in.readUnsignedShort();
                    }
                }
            }
        }

        void check() {
            for (int i = 1; i < tags.length; i++) {
                // 17 and 18 are lambdas, method references, and texts that are joined by +.
                Check.due("made while it runs", 0, tags[i] == 17 || tags[i] == 18 ? 1 : 0);
                if (tags[i] == 9 || tags[i] == 10 || tags[i] == 11) {
                    checkUse(texts[first[first[i]]], texts[first[second[i]]]);
                }
            }
        }

        private static void checkUse(String owner, String name) {
            boolean own = owner.equals("DyeVats") || owner.startsWith("DyeVats$");
            String use = owner.replace("java/lang/", "") + "." + name;
            Check.due(use, 1, own || ALLOWED.contains(use) ? 1 : 0);
        }
    }
}
