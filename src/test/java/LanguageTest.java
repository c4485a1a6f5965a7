import java.io.IOException;
import java.lang.reflect.Constructor;
import java.lang.reflect.Field;
import java.lang.reflect.Member;
import java.lang.reflect.Method;
import java.lang.reflect.Modifier;
import java.nio.charset.StandardCharsets;
import java.nio.file.Files;
import java.nio.file.Path;
import java.util.ArrayList;
import java.util.HashSet;
import java.util.List;
import java.util.Set;
import java.util.regex.Matcher;
import java.util.regex.Pattern;

/** What of LANGUAGE.md can be seen without reading the class: its face, and words that may not stand in it. */
public final class LanguageTest {
    private static int wrong = 0;

    public static void main(String[] args) throws IOException {
        Path path = Path.of("src/main/java/RiverChoice.java");
        String source = Files.readString(path, StandardCharsets.US_ASCII);
        headings(source);
        source = source.replaceAll("(?s)/\\*.*?\\*/", "").replaceAll("//[^\n]*", "");
        words(source);
        calls(source);
        methodLengths(source);
        face();
        faceOfTheDocument();
        for (Class<?> c : RiverChoice.class.getDeclaredClasses()) {
            nested(c);
        }
        if (RiverChoice.class.getDeclaredClasses().length > 12) {
            tell("too many classes");
        }
        System.out.println(wrong + " rules not kept");
        if (wrong != 0) {
            System.exit(1);
        }
    }

    private static void tell(String what) {
        wrong++;
        System.out.println(what);
    }

    private static void words(String source) {
        String[] refused = {"\\bthrow\\b", "\\bthrows\\b", "\\btry\\b", "\\bcatch\\b", "\\bsynchronized\\b", "\\bassert\\b", "->", "::",
            "\\bimport\\b", "\\bpackage\\b", "Exact\\b", "\\bprotected\\b", "\\bwhile\\b", "\\bvar\\b", "\\bextends\\b",
            "\\bhashCode\\b", "\\btoString\\b", "\\bequals\\b", "\\binstanceof\\b", "\\bObject\\b"};
        for (String word : refused) {
            if (Pattern.compile(word).matcher(source).find()) {
                tell("the class has " + word);
            }
        }
    }

    private static void calls(String source) {
        Set<String> allowed = Set.of("Integer.bitCount", "Math.max", "System.arraycopy");
        Matcher m = Pattern.compile("\\b(Integer|Long|Math|System|Arrays|String|StringBuilder|List)\\.(\\w+)").matcher(source);
        while (m.find()) {
            if (!allowed.contains(m.group())) {
                tell("a call of the library: " + m.group());
            }
        }
        Matcher made = Pattern.compile("(?m)^(.*)\\bnew\\b").matcher(source);
        while (made.find()) {
            if (!made.group(1).trim().startsWith("private final")) {
                tell("made by a method: " + made.group());
            }
        }
    }

    private static void methodLengths(String source) {
        int length = 0;
        for (String line : source.split("\n")) {
            boolean head = line.matches("^( {4}| {8})\\S.*\\) \\{$") && !line.matches("^ +(if|for|switch|}).*");
            length = head ? 0 : length + 1;
            if (line.matches("^( {4}| {8})}$") && length > 60) {
                tell("a method of " + length + " lines ends by: " + line);
            }
        }
    }

    private static void face() {
        List<Member> members = new ArrayList<>();
        members.addAll(List.of(RiverChoice.class.getDeclaredMethods()));
        members.addAll(List.of(RiverChoice.class.getDeclaredFields()));
        members.addAll(List.of(RiverChoice.class.getDeclaredConstructors()));
        Set<String> open = new HashSet<>();
        int methods = 0;
        for (Member m : members) {
            if (Modifier.isPublic(m.getModifiers())) {
                methods += m instanceof Method ? 1 : 0;
                open.add(m.getName());
            } else if (!Modifier.isPrivate(m.getModifiers())) {
                tell("neither public nor private: " + m.getName());
            }
        }
        if (methods != 34 || open.size() != 34 + 4 + 1) {
            tell("the face has " + methods + " methods and " + open.size() + " names");
        }
        for (Member m : members) {
            if (Modifier.isPrivate(m.getModifiers()) && open.contains(m.getName())) {
                tell("a private member by a public name: " + m.getName());
            }
        }
        int kept = 0;
        for (Field f : RiverChoice.class.getDeclaredFields()) {
            kept += Modifier.isStatic(f.getModifiers()) ? 0 : 1;
        }
        if (kept > 20) {
            tell("too many fields: " + kept);
        }
    }

    /** Each line of the document's code block is a member of the class, by its types and its name. */
    private static void faceOfTheDocument() throws IOException {
        String document = Files.readString(Path.of("../shared/DOC.md"), StandardCharsets.UTF_8);
        Matcher lines = Pattern.compile("(?m)^    public (?!static)(?:(\\w+) )?(\\w+)\\((.*)\\);$").matcher(document);
        int calls = 0;
        while (lines.find()) {
            calls++;
            String types = lines.group(3).replaceAll(" \\w+(?=,|$)", "");
            boolean made = lines.group(1) == null;
            boolean stands = false;
            for (Constructor<?> c : RiverChoice.class.getConstructors()) {
                stands |= made && c.getParameterCount() == 0 && types.isEmpty();
            }
            for (Method m : RiverChoice.class.getMethods()) {
                stands |= !made && m.getName().equals(lines.group(2)) && m.getReturnType().getName().equals(lines.group(1))
                    && types.equals(names(m.getParameterTypes())) && !Modifier.isStatic(m.getModifiers());
            }
            if (!stands) {
                tell("the class lacks " + lines.group());
            }
        }
        if (calls != 35) {
            tell("calls in the document's code block: " + calls);
        }
        if (!Modifier.isFinal(RiverChoice.class.getModifiers()) || !Modifier.isPublic(RiverChoice.class.getModifiers())) {
            tell("the class is not public and final");
        }
    }

    /** What the interface says ahead of its calls stands ahead of the first of them, and nothing else ahead of the others. */
    private static void headings(String source) throws IOException {
        String document = Files.readString(Path.of("../shared/DOC.md"), StandardCharsets.UTF_8);
        Matcher groups = Pattern.compile("Ahead of the calls (.*) the interface says: (.*)\\.").matcher(document);
        int found = 0;
        while (groups.find()) {
            found++;
            for (String call : groups.group(1).replaceAll("[`,]", "").split(" ")) {
                Matcher head = Pattern.compile("(?m)^    public \\w+ " + call + "\\(").matcher(source);
                String ahead = head.find() ? source.substring(0, head.start()) : "";
                String last = ahead.substring(ahead.lastIndexOf("// ----") + 1);
                if (!last.startsWith("/ " + groups.group(2) + "\n")) {
                    tell("ahead of " + call + " stands not " + groups.group(2));
                }
            }
        }
        if (found != 5) {
            tell("headings that the document tells: " + found);
        }
    }

    private static String names(Class<?>[] types) {
        StringBuilder names = new StringBuilder();
        for (Class<?> type : types) {
            names.append(names.length() == 0 ? "" : ", ").append(type.getName());
        }
        return names.toString();
    }

    private static void nested(Class<?> c) {
        if (!Modifier.isStatic(c.getModifiers()) || Modifier.isPublic(c.getModifiers())) {
            tell("a class inside that is not static or is public: " + c.getName());
        }
        for (Field f : c.getDeclaredFields()) {
            if (Modifier.isStatic(f.getModifiers()) && !Modifier.isFinal(f.getModifiers())) {
                tell("static and not final: " + f);
            }
        }
    }
}
