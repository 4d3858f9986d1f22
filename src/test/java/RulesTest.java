import java.io.DataInputStream;
import java.io.IOException;
import java.io.InputStream;
import java.nio.file.Files;
import java.nio.file.Path;
import java.util.ArrayList;
import java.util.List;
import java.util.Set;
import java.util.TreeSet;
import java.util.regex.Matcher;
import java.util.regex.Pattern;

/** What of ../shared/LANGUAGE.md can be seen from the source and from the compiled classes. */
public final class RulesTest {
    private static final Path SOURCE = Path.of("src/main/java/TwoOnOneDay.java");
    private static final String FORBIDDEN = "throw|throws|try|catch|finally|synchronized|assert|volatile|transient|native|"
        + "package|protected|hashCode|Thread|Random|Exception|Error";
    private static final Set<String> IMPORTS = Set.of("java.util.Arrays", "java.util.ArrayList", "java.util.List",
        "java.util.Iterator");
    /** What the class may call that is not its own (of records and enums the machine's own calls are told too). */
    private static final Pattern LIBRARY = Pattern.compile(
        "java/lang/(Object|Enum|Record)\\.<init>|java/lang/Enum\\.(valueOf|ordinal)|\\[.*\\.clone"
        + "|java/util/Arrays\\.(copyOf|copyOfRange|fill)|java/lang/System\\.arraycopy"
        + "|java/lang/(Integer|Long|Math)\\.(?!.*Exact$)\\w+"
        + "|java/lang/String\\.(length|charAt|isEmpty|equals|indexOf|substring|toCharArray|<init>)"
        + "|java/lang/StringBuilder\\.(<init>|append|charAt|setCharAt|setLength|deleteCharAt|reverse|length|toString)"
        + "|java/util/(ArrayList|List)\\.(<init>|add|get|set|remove|size|isEmpty|clear|iterator|of)"
        + "|java/util/Iterator\\.(hasNext|next)");

    private RulesTest() { }

    public static void main(String[] arguments) throws IOException {
        Check.watch();
        String source = Files.readString(SOURCE);
        String bare = withoutComments(source);
        words(bare);
        methods(bare);
        for (int i = 0; i < source.length(); i++) {
            Check.isTrue("plain signs alone at " + i, source.charAt(i) < 128);
        }
        List<String> names = new ArrayList<>(List.of("TwoOnOneDay"));
        for (Class<?> one : TwoOnOneDay.class.getDeclaredClasses()) {
            names.add(one.getName());
        }
        for (String name : names) {
            calls(name);
        }
        Check.end();
    }

    private static String withoutComments(String source) {
        return source.replaceAll("(?s)/\\*.*?\\*/", "").replaceAll("//[^\n]*", "").replaceAll("'.'", "' '")
            .replaceAll("\"[^\"\n]*\"", "\"\"");
    }

    private static void words(String bare) {
        Matcher forbidden = Pattern.compile("\\b(" + FORBIDDEN + ")\\b").matcher(bare);
        while (forbidden.find()) {
            Check.isTrue("no " + forbidden.group(), false);
        }
        Matcher arrows = Pattern.compile("(?<!\\w)(case [^:;{}>]*|default )->").matcher(bare);
        Check.isTrue("no lambda, no method reference", !arrows.replaceAll("").contains("->") && !bare.contains("::"));
        Check.isTrue("no text is joined by +", !Pattern.compile("\"\\s*\\+|\\+\\s*\"").matcher(bare).find());
        Check.isTrue("no static block", !Pattern.compile("\\bstatic\\s*\\{").matcher(bare).find());
        Check.isTrue("no loop without a bound",
            !Pattern.compile("while\\s*\\(\\s*true|for\\s*\\([^;)]*;\\s*;").matcher(bare).find());
        Matcher imports = Pattern.compile("\\bimport\\s+([\\w.]+);").matcher(bare);
        while (imports.find()) {
            Check.isTrue("import " + imports.group(1), IMPORTS.contains(imports.group(1)));
        }
    }

    /** Methods end in sixty lines. They are told by how far they are set in. */
    private static void methods(String bare) {
        String[] lines = bare.split("\n");
        int start = -1;
        int found = 0;
        for (int i = 0; i < lines.length; i++) {
            if (lines[i].matches("( {4}| {8})\\w[^;=]*\\) \\{")) {
                start = i;
            } else if (start >= 0 && lines[i].matches("( {4}| {8})\\}")) {
                Check.isTrue("a method of " + (i - start + 1) + " lines: " + lines[start], i - start < 60);
                start = -1;
                found++;
            }
        }
        // the document's face alone has 43
        Check.isTrue("methods are found", found > 43);
    }

    private static void calls(String name) throws IOException {
        try (InputStream stream = TwoOnOneDay.class.getResourceAsStream("/" + name + ".class")) {
            Check.isTrue(name + " is compiled", stream != null);
            for (String call : libraryCalls(new DataInputStream(stream))) {
                Check.isTrue(name + " calls " + call, LIBRARY.matcher(call).matches());
            }
        }
    }

    /** Methods of classes that are not the program's own, from a class file's table of constants. */
    private static Set<String> libraryCalls(DataInputStream in) throws IOException {
        in.readInt();
        in.readInt();
        int size = in.readUnsignedShort();
        int[] first = new int[size];
        int[] second = new int[size];
        String[] texts = new String[size];
        List<Integer> calls = new ArrayList<>();
        for (int i = 1; i < size; i++) {
            int tag = in.readUnsignedByte();
            switch (tag) {
                case 1 -> texts[i] = in.readUTF();
                case 3, 4 -> in.readInt();
                case 5, 6 -> {
                    in.readLong();
                    i++;
                }
                case 7, 8, 16, 19, 20 -> first[i] = in.readUnsignedShort();
                case 15 -> {
                    in.readUnsignedByte();
                    in.readUnsignedShort();
                }
                default -> {
                    first[i] = in.readUnsignedShort();
                    second[i] = in.readUnsignedShort();
                    if (tag == 10 || tag == 11 || tag == 17 || tag == 18) {
                        calls.add(i);
                    }
                }
            }
        }
        Set<String> found = new TreeSet<>();
        for (int call : calls) {
            String owner = texts[first[first[call]]];
            if (owner == null || !owner.startsWith("TwoOnOneDay")) {
                found.add(owner + "." + texts[first[second[call]]]);
            }
        }
        return found;
    }
}
