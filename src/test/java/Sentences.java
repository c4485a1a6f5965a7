import java.io.IOException;
import java.nio.charset.StandardCharsets;
import java.nio.file.Files;
import java.nio.file.Path;
import java.util.Arrays;
import java.util.function.LongSupplier;
import java.util.function.Supplier;
import java.util.regex.Matcher;
import java.util.regex.Pattern;

/**
 * Answers compared sentence by sentence. Each sentence is quoted as the document has it, and looked for there,
 * so that a test that speaks of words the document does not have is wrong itself.
 */
final class Sentences {
    private static final Path DOCUMENT = Path.of("..", "shared", "DOC.md");
    private static final int PROMISES = 35;
    static final int TERMS = 0;
    /** The number of what the document says outside of its terms and promises. */
    static final int AROUND = PROMISES + 1;

    /** What stands between sentences and promises nothing of its own; LanguageTest looks at what the interface says. */
    private static final Pattern FRAMES = Pattern.compile("Ahead of the calls [^:]*: ---- [a-z ,]*\\.|={8} 2|={8}|```text|```|`[^`]*`: ");

    private static final int[] FAR = {-2147483648, -2147483647, -1073741824, -65536, -256, -128, -64, -32, -10, -3, -2,
        16, 31, 32, 33, 63, 64, 65, 127, 128, 255, 256, 1000000, 65536, 1073741824, 2147483646, 2147483647};

    private final String[] said = new String[AROUND + 1];
    /** What is said and not quoted so far: what was quoted is blank. */
    private final StringBuilder[] unquoted = new StringBuilder[AROUND + 1];
    private String name = "";
    private int sentences = 0;
    private int asked = 0;
    private int askedHere = 1;
    private int wrong = 0;

    Sentences() throws IOException {
        String document = Files.readString(DOCUMENT, StandardCharsets.UTF_8);
        Matcher heads = Pattern.compile("(?m)^## (?:(Terms)|Promise (\\d+):.*|.*)$").matcher(document);
        int section = AROUND;
        int start = 0;
        Arrays.fill(said, "");
        while (heads.find()) {
            add(section, document.substring(start, heads.start()));
            start = heads.end();
            section = heads.group(1) != null ? TERMS : heads.group(2) == null ? AROUND : Integer.parseInt(heads.group(2));
        }
        add(section, document.substring(start));
        Arrays.setAll(unquoted, i -> new StringBuilder(said[i]));
    }

    private void add(int section, String text) {
        said[section] += text.replaceAll("\\s+", " ") + " ";
    }

    /** The answers that come next are those that this sentence asks for: of a promise, of the TERMS, or AROUND them. */
    void sentence(int promise, String words) {
        if (askedHere == 0) {
            tell("no answer was looked at for " + name);
        }
        name = titleOf(promise) + ", '" + words + "'";
        if (!said[promise].contains(words)) {
            tell("the document does not say " + name);
        }
        for (int at = said[promise].indexOf(words); at >= 0; at = said[promise].indexOf(words, at + 1)) {
            unquoted[promise].replace(at, at + words.length(), " ".repeat(words.length()));
        }
        sentences++;
        askedHere = 0;
    }

    private static String titleOf(int section) {
        return section == TERMS ? "terms" : section == AROUND ? "around" : "promise " + section;
    }

    void due(String call, long got, long want) {
        asked++;
        askedHere++;
        if (got != want) {
            tell(name + ": " + call + " answered " + got + ", due is " + want);
        }
    }

    /** A call that is refused answers so and changes nothing but the status: one more of its reason. */
    void refused(RiverChoice x, int reason, String call, long want, LongSupplier made) {
        long before = x.digest();
        int[] counts = {x.status(0), x.status(1), x.status(2)};
        due(call, made.getAsLong(), want);
        due("digest behind " + call, x.digest(), before);
        for (int what = 0; what < 3; what++) {
            due("status(" + what + ") behind " + call, x.status(what), counts[what] + (RiverChoice.BAD - reason == what ? 1 : 0));
        }
    }

    /** A call that is not refused and changes nothing at all. */
    void changesNothing(RiverChoice x, String call, long want, LongSupplier made) {
        refused(x, 0, call, want, made);
    }

    interface Asked {
        long answer(RiverChoice x, int n);
    }

    /** Each number beyond these bounds is refused as BAD, on an object of its own; # stands for it in the call. */
    void badBeyond(int low, int high, Supplier<RiverChoice> made, String call, long want, Asked asked) {
        for (int n : beyond(low, high)) {
            RiverChoice x = made.get();
            refused(x, RiverChoice.BAD, call.replace("#", "" + n), want, () -> asked.answer(x, n));
        }
    }

    /** Numbers that are too small and too large: those next to the bounds, and far ones. */
    static int[] beyond(int low, int high) {
        int[] near = {low - 1, high + 1, low - 2, high + 2};
        int[] all = Arrays.copyOf(near, near.length + FAR.length);
        System.arraycopy(FAR, 0, all, near.length, FAR.length);
        return Arrays.stream(all).filter(n -> n < low || n > high).distinct().toArray();
    }

    void end() {
        for (int section = TERMS; section <= PROMISES; section++) {
            for (String rest : FRAMES.matcher(unquoted[section]).replaceAll("  ").split(" {2,}")) {
                if (rest.matches(".*\\w.*")) {
                    tell("of " + titleOf(section) + " nothing looks at '" + rest.trim() + "'");
                }
            }
        }
        System.out.println(sentences + " sentences, " + asked + " answers, " + wrong + " wrong");
        if (wrong != 0 || asked == 0) {
            System.exit(1);
        }
    }

    private void tell(String what) {
        wrong++;
        System.out.println(what);
    }
}
