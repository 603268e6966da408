import java.lang.reflect.Constructor;
import java.lang.reflect.Field;
import java.lang.reflect.Method;
import java.lang.reflect.Modifier;
import java.nio.file.Files;
import java.nio.file.Path;
import java.util.Arrays;
import java.util.Set;
import java.util.TreeSet;
import java.util.regex.Matcher;
import java.util.regex.Pattern;

/** The public face, those rules of LANGUAGE.md that can be seen from outside, and how much room calls take. */
public final class RulesTest {
    private static final String[] FACE = {
        "feed(int,int,int,int,int)int", "land(int)int", "fault(int)int", "lane(int,int)int", "why(int)int", "worn(int)int",
        "fillings(int)int", "go(int)int", "fill(int)int", "dig(int)int", "turn(int)int", "seasons(int)int", "rain(int)int",
        "undo(int)int", "judge(int,int)int", "perform(int)int", "year(int,int)int", "reach()int", "soonest(int)int",
        "rows(int,int)int", "way(int,int)int", "toAndFro(int)int", "cheapest(int,int)int", "cheapBy(int,int)int",
        "joins(int)int", "shuts(int,int)int", "turning(int)int", "when(int)int", "starts(int)int", "rains(int)int",
        "attempt(int)int", "wins()int", "best()int", "chance(int,int,int)int", "bestBy(int,int)int",
        "numbers(int,int,int)int", "write(int,int,long)long", "lists(int,int)int", "image(int)int", "restore(int)int",
        "count(int)int"};

    public static void main(String[] args) throws Exception {
        face();
        source();
        room();
        Check.end();
    }

    private static void face() {
        Set<String> found = new TreeSet<>();
        Set<String> names = new TreeSet<>();
        for (Method m : RutWays.class.getDeclaredMethods()) {
            if (m.isSynthetic()) {
                continue;
            }
            StringBuilder s = new StringBuilder(m.getName()).append('(');
            for (Class<?> c : m.getParameterTypes()) {
                s.append(s.charAt(s.length() - 1) == '(' ? "" : ",").append(c.getName());
            }
            s.append(')').append(m.getReturnType().getName());
            Check.holds("public or private: " + s, Modifier.isPublic(m.getModifiers()) || Modifier.isPrivate(m.getModifiers()));
            if (Modifier.isPublic(m.getModifiers())) {
                found.add(s.toString());
            }
            Check.holds("a name of its own: " + m.getName(), names.add(m.getName()));
        }
        Check.holds("the face is the document's: " + found, found.equals(new TreeSet<>(Arrays.asList(FACE))));
        for (Field f : RutWays.class.getDeclaredFields()) {
            boolean none = f.getName().equals("NONE");
            Check.holds("field " + f.getName(), none ? Modifier.isPublic(f.getModifiers()) : Modifier.isPrivate(f.getModifiers()));
        }
        Constructor<?>[] made = RutWays.class.getDeclaredConstructors();
        Check.holds("one public constructor", made.length == 1 && Modifier.isPublic(made[0].getModifiers())
            && made[0].getParameterCount() == 0);
        Check.holds("public final class", Modifier.isFinal(RutWays.class.getModifiers()));
        for (Class<?> c : RutWays.class.getDeclaredClasses()) {
            Check.holds("static class " + c, Modifier.isStatic(c.getModifiers()));
            Check.holds("fields of " + c, fieldsOf(c) <= 20);
            for (Method m : c.getDeclaredMethods()) {
                Check.holds("no public one's name: " + c + m.getName(), Arrays.stream(FACE).noneMatch(f -> f.startsWith(m.getName() + "(")));
            }
        }
        Check.holds("some twelve classes", RutWays.class.getDeclaredClasses().length + 1 <= 12);
        Check.holds("fields of RutWays", fieldsOf(RutWays.class) <= 20);
    }

    private static long fieldsOf(Class<?> c) {
        return Arrays.stream(c.getDeclaredFields()).filter(f -> !Modifier.isStatic(f.getModifiers())).count();
    }

    private static void source() throws Exception {
        String text = Files.readString(Path.of("src/main/java/RutWays.java"));
        for (int i = 0; i < text.length(); i++) {
            if (text.charAt(i) > 127) {
                Check.holds("plain signs alone", false);
            }
        }
        String code = text.replaceAll("(?s)/\\*.*?\\*/", "").replaceAll("//[^\n]*", "")
            .replaceAll("\"[^\"\n]*\"", "\"\"").replaceAll("'[^']'", "'c'");
        for (String word : new String[] {"throw", "throws", "try", "catch", "synchronized", "assert", "finally", "protected",
            "double", "float", "hashCode", "toString", "System.out", "Thread", "Random", "currentTimeMillis", "nanoTime", "volatile",
            "transient", "native", "var", "yield"}) {
            Check.holds("no " + word, !Pattern.compile("\\b" + Pattern.quote(word) + "\\b").matcher(code).find());
        }
        Check.holds("no lambda", !code.contains("->"));
        Check.holds("no method reference", !code.contains("::"));
        Check.holds("no joining of texts by +", !Pattern.compile("\"\\s*\\+|\\+\\s*\"").matcher(code).find());
        Matcher imports = Pattern.compile("import ([^;]*);").matcher(code);
        while (imports.find()) {
            Check.holds("import " + imports.group(1), imports.group(1).equals("java.util.Arrays"));
        }
        methods(code);
    }

    /** No method is longer than some sixty lines or takes more than seven parameters. */
    private static void methods(String code) {
        String[] lines = code.split("\n");
        Pattern head = Pattern.compile("^(    |        )[a-z].*\\)\\s*\\{$");
        for (int i = 0; i < lines.length; i++) {
            Matcher m = head.matcher(lines[i]);
            if (m.find()) {
                int end = i;
                while (!lines[end].startsWith(m.group(1) + "}")) {
                    end++;
                }
                Check.holds("length of " + lines[i].trim(), end - i < 60);
                Check.holds("parameters of " + lines[i].trim(), lines[i].chars().filter(c -> c == ',').count() < 7);
            }
        }
    }

    /** Calls make no objects; what a new object takes is small beside the room. */
    private static void room() {
        com.sun.management.ThreadMXBean threads =
            (com.sun.management.ThreadMXBean) java.lang.management.ManagementFactory.getThreadMXBean();
        long id = Thread.currentThread().getId();
        String text = "land places 7;lane 0 1;lane 1 2 depth 3;lane 2 3;lane 3 4 soft 9;lane 4 5;lane 5 6;lane 6 0;cart at 0 pull 3;"
            + "person turns 1;person turns 2;wears:depth + 1;may:depth < 4;";
        RutWays x = new RutWays();
        for (int round = 0; round < 5; round++) {
            long before = threads.getThreadAllocatedBytes(id);
            callAll(x, text);
            long after = threads.getThreadAllocatedBytes(id);
            Check.holds("bytes by one of each call: " + (after - before), round < 4 || after - before < 2000);
        }
        long before = threads.getThreadAllocatedBytes(id);
        for (int i = 0; i < 100; i++) {
            x = new RutWays();
        }
        long each = (threads.getThreadAllocatedBytes(id) - before) / 100;
        Check.holds("bytes of a new object: " + each + x.count(0), each < 40000);
    }

    private static void callAll(RutWays x, String text) {
        Check.tell(x, text);
        x.go(0);
        x.fill(1);
        x.dig(2);
        x.turn(0);
        x.seasons(2);
        x.rain(3);
        x.undo(1);
        x.numbers(0, 1, 3);
        x.write(0, 0, 11);
        x.judge(0, 0);
        x.perform(0);
        x.year(5, 40);
        x.reach();
        x.soonest(3);
        x.rows(3, 6);
        x.way(3, 1);
        x.toAndFro(1);
        x.cheapest(3, 0);
        x.cheapBy(3, 0);
        x.joins(1);
        x.shuts(3, 1);
        x.turning(0);
        x.when(1);
        x.starts(1);
        x.rains(0);
        x.attempt(0);
        x.wins();
        x.best();
        x.chance(3, 7, 0);
        x.bestBy(3, 7);
        x.lists(0, 3);
        x.image(0);
        x.restore(0);
        x.count(7);
    }
}
