import java.io.IOException;
import java.lang.reflect.Constructor;
import java.lang.reflect.Field;
import java.lang.reflect.Method;
import java.lang.reflect.Modifier;
import java.nio.file.Files;
import java.nio.file.Path;
import java.util.ArrayList;
import java.util.List;
import java.util.Map;
import java.util.TreeMap;
import java.util.TreeSet;
import java.util.regex.Matcher;
import java.util.regex.Pattern;

/** The public face is the document's, and no call throws. */
public final class FaceTest {
    private static final String[] METHODS = {"begin 0", "append 1", "load 0", "go 1", "back 1", "version 2", "meet 2",
        "more 2", "letter 2", "say 1", "wipe 0", "pad 1", "fault 1", "occurs 1", "end 1", "matches 1", "parts 0",
        "factors 2", "kth 2", "before 0", "group 2", "spell 1", "step 2", "common 2", "unique 1", "absent 1",
        "minimal 0", "count 1"};
    private static final String[] CONSTANTS = {"NO_SUCH", "BAD_VALUE", "BAD_TEXT", "TOO_MANY", "NOT_POSSIBLE", "NONE"};
    private static final int HEADINGS = 7;
    private static final Path SOURCE = Path.of("src/main/java/FactorBranches.java");

    private static final List<String> faults = new ArrayList<>();

    public static void main(String[] args) throws IOException, IllegalAccessException {
        checkClass();
        checkMethods();
        checkFields();
        String document = Document.text();
        if (!document.isEmpty()) checkDocument(document, Files.readString(SOURCE));
        checkAnyArguments();
        for (String fault : faults) System.out.println(fault);
        System.out.println(faults.size() + " faults of the face");
        if (!faults.isEmpty()) System.exit(1);
    }

    private static void must(boolean holds, String fault) {
        if (!holds) faults.add(fault);
    }

    private static void checkClass() {
        int modifiers = FactorBranches.class.getModifiers();
        must(Modifier.isPublic(modifiers) && Modifier.isFinal(modifiers), "the class is not public and final");
        Constructor<?>[] all = FactorBranches.class.getDeclaredConstructors();
        must(all.length == 1 && all[0].getParameterCount() == 0 && Modifier.isPublic(all[0].getModifiers()), "the constructor");
    }

    private static void checkMethods() {
        TreeSet<String> due = new TreeSet<>(List.of(METHODS));
        TreeSet<String> names = new TreeSet<>();
        for (String method : METHODS) names.add(method.split(" ")[0]);
        TreeSet<String> found = new TreeSet<>();
        for (Method method : FactorBranches.class.getDeclaredMethods()) {
            if (Modifier.isPrivate(method.getModifiers())) {
                must(!names.contains(method.getName()), "a private method has a public name: " + method);
            } else {
                must(method.getReturnType() == int.class && !Modifier.isStatic(method.getModifiers()), "not due: " + method);
                for (Class<?> type : method.getParameterTypes()) must(type == int.class, "not due: " + method);
                found.add(method.getName() + " " + method.getParameterCount());
            }
        }
        must(found.equals(due), "the methods are " + found);
    }

    private static void checkFields() throws IllegalAccessException {
        Map<String, Integer> found = new TreeMap<>();
        for (Field field : FactorBranches.class.getDeclaredFields()) {
            if (!Modifier.isPrivate(field.getModifiers())) found.put(field.getName(), field.getInt(null));
        }
        must(found.size() == CONSTANTS.length, "the constants are " + found);
        for (int i = 0; i < CONSTANTS.length; i++) {
            must(found.getOrDefault(CONSTANTS[i], 0) == -1 - i, "the value of " + CONSTANTS[i]);
        }
    }

    /** The face in the document, line by line: the same names of arguments, in the same order, under the same headings. */
    private static void checkDocument(String document, String source) {
        List<String> due = new ArrayList<>();
        Matcher line = Pattern.compile("(?m)^    public .*;$").matcher(Document.chapter(document, "The public face"));
        while (line.find()) due.add(line.group().replace(");", ") {"));
        List<String> found = new ArrayList<>();
        line = Pattern.compile("(?m)^    public .*$").matcher(source);
        while (line.find()) found.add(line.group());
        must(found.equals(due), "the face of the source is not that of the document: " + found);

        Matcher heading = Pattern.compile("(?m)^Ahead of the calls `([a-z]+)`.* the interface says: (---- .*)\\.$").matcher(document);
        int headings = 0;
        while (heading.find()) {
            headings++;
            String head = "    // " + heading.group(2) + "\n\n    public int " + heading.group(1) + "(";
            must(source.contains(head), "the source does not say " + heading.group(2) + " ahead of " + heading.group(1));
        }
        must(headings == HEADINGS, headings + " headings in the document");
    }

    /** No call may throw, whatever its arguments, nor on an object that has been used for longer than the document promises. */
    private static void checkAnyArguments() {
        int[] odd = {Integer.MIN_VALUE, Integer.MIN_VALUE + 1, -401, -61, -2, -1, 0, 1, 5, 6, 7, 8, 33, 47, 59, 60, 61, 97,
            120, 126, 127, 399, 400, 401, 1830, Integer.MAX_VALUE - 1, Integer.MAX_VALUE};
        FactorBranches x = new FactorBranches();
        for (int round = 0; round < 60; round++) {
            if (round % 6 == 0) x.begin();
            for (int i = 0; i < 9; i++) x.append((round * 7 + i * i) % 3);
            for (int one : odd) for (int other : odd) callAll(x, one, other);
        }
    }

    private static void callAll(FactorBranches x, int one, int other) {
        try {
            x.append(one);
            x.load();
            x.version(one, other);
            x.meet(one, other);
            x.more(one, other);
            x.letter(one, other);
            x.say(one);
            x.pad(one);
            x.fault(one);
            x.occurs(one);
            x.end(one);
            x.matches(one);
            x.parts();
            x.factors(one, other);
            x.kth(one, other);
            x.before();
            x.group(one, other);
            x.spell(one);
            x.step(one, other);
            x.common(one, other);
            x.unique(one);
            x.absent(one);
            x.minimal();
            x.count(one);
            x.back(other);
            x.go(one);
            x.wipe();
        } catch (RuntimeException e) {
            must(false, "with " + one + ", " + other + " a call threw " + e);
        }
    }
}
