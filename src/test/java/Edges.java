import java.nio.file.Files;
import java.nio.file.Path;
import java.util.Map;
import java.util.TreeMap;
import java.util.regex.Matcher;
import java.util.regex.Pattern;

/** What the tests of edges share: the sentence of the document that a test stands for, and an object in a land. */
class Edges {
    /** The part of the document ahead of its promises. */
    static final int TERMS = 0;
    static final int MIN = Integer.MIN_VALUE;
    static final int MAX = Integer.MAX_VALUE;
    private static final Path DOCUMENT = Path.of("../shared/DOC.md");

    static RutWays x = new RutWays();
    private static String sentence = "";
    private static final Map<Integer, String> PARTS = new TreeMap<>();
    private static final Map<Integer, boolean[]> QUOTED = new TreeMap<>();

    Edges() {
    }

    /** What is tested from here on is this sentence of a promise. */
    static void says(int promise, String words) {
        sentence = (promise == TERMS ? "terms: " : "promise " + promise + ": ") + words + " -- ";
        if (PARTS.isEmpty()) {
            return;
        }
        String part = PARTS.getOrDefault(promise, "");
        boolean[] quoted = QUOTED.get(promise);
        int at = part.indexOf(words);
        Check.holds(sentence + "the document says so", at >= 0);
        while (at >= 0) {
            for (int i = at; i < at + words.length(); i++) {
                quoted[i] = true;
            }
            at = part.indexOf(words, at + 1);
        }
    }

    static void due(String call, long got, long want) {
        Check.due(sentence + call, got, want);
    }

    /** A new object in a land. */
    static void in(String text) {
        x = new RutWays();
        due("a land without a fault: " + text, Check.tell(x, text) > 0 ? 1 : 0, 1);
    }

    /** A tray of 64 bits gets these numbers. */
    static void put(int tray, long... numbers) {
        due("numbers", x.numbers(tray, 3, numbers.length), 0);
        for (int i = 0; i < numbers.length; i++) {
            due("write", x.write(tray, i, numbers[i]), numbers[i]);
        }
    }

    /** A text is read, and has so many lines. */
    static void fine(int lines, String text) {
        x = new RutWays();
        due("land of '" + text + "'", Check.tell(x, text), lines);
        due("fault(0) of '" + text + "'", x.fault(0), 0);
        due("fault(1) of '" + text + "'", x.fault(1), -1);
    }

    /** A fault where the sign ^ is in the text, which is taken out. */
    static void fault(int kind, String marked) {
        int place = marked.indexOf('^');
        String text = marked.substring(0, place) + marked.substring(place + 1);
        x = new RutWays();
        due("land of '" + text + "'", Check.tell(x, text), -30 - kind);
        due("fault(0) of '" + text + "'", x.fault(0), kind);
        due("fault(1) of '" + text + "'", x.fault(1), place);
    }

    static String times(String text, int n) {
        StringBuilder s = new StringBuilder();
        for (int i = 0; i < n; i++) {
            s.append(text);
        }
        return s.toString();
    }

    // ---- the document

    /** Reads the document, so that each sentence can be looked for in its part. */
    static void open() throws Exception {
        if (!Files.exists(DOCUMENT)) {
            System.out.println("no document beside the project: its sentences aren't looked for");
            return;
        }
        String all = Files.readString(DOCUMENT);
        int terms = all.indexOf("\n## Terms");
        int end = all.indexOf("\n## Not promised");
        String limit = all.substring(all.indexOf("An object is used"), all.indexOf("\n## The public face"));
        Matcher heads = Pattern.compile("\n## (Terms|Promise (\\d+): \\w.*)\n").matcher(all);
        int from = terms;
        int promise = TERMS;
        while (heads.find()) {
            if (heads.group(2) != null) {
                keep(promise, (promise == TERMS ? limit : "") + all.substring(from, heads.start()));
                promise = Integer.parseInt(heads.group(2));
            }
            from = heads.end();
        }
        keep(promise, all.substring(from, end));
    }

    private static void keep(int promise, String text) {
        String plain = text.replaceAll("Ahead of the calls [^\n]*\n", "").replaceAll("```(text)?", " ")
            .replaceAll("(?m)^`(int|long|RutWays)[^`]*`:", " ").replaceAll("[\\s]+", " ").trim();
        PARTS.put(promise, plain);
        QUOTED.put(promise, new boolean[plain.length()]);
    }

    /** No letter and no digit of the document's promises may be left without a test that names it. */
    static void close() {
        for (Map.Entry<Integer, String> part : PARTS.entrySet()) {
            String text = part.getValue();
            boolean[] quoted = QUOTED.get(part.getKey());
            StringBuilder left = new StringBuilder();
            for (int i = 0; i < text.length(); i++) {
                if (!quoted[i] && Character.isLetterOrDigit(text.charAt(i))) {
                    left.append(text.charAt(i));
                } else if (left.length() > 0 && left.charAt(left.length() - 1) != ' ') {
                    left.append(' ');
                }
            }
            Check.due("promise " + part.getKey() + " (0: the terms), words that no test names: " + left, left.toString().trim().length(), 0);
        }
    }
}
