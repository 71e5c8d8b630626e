import java.util.LinkedHashMap;
import java.util.LinkedHashSet;
import java.util.Map;
import java.util.Set;

/**
 * What the tests of the document's boundary cases share. Each test stands behind the words of the
 * document that it tests; EdgesTest looks whether these are all words of the document's promises.
 */
abstract class Edges {
    static final int NO_SUCH = -1, BAD_VALUE = -2, BAD_TEXT = -3, TOO_MANY = -4, NOT_POSSIBLE = -5, NONE = -6;
    static final int MIN = Integer.MIN_VALUE, MAX = Integer.MAX_VALUE;
    static final String A60 = "a".repeat(60);

    /** Version 0 alone, and one word without letters. */
    static final Calls NEW = new Calls();
    static final Calls EMPTY_WORD = NEW.begin();
    static final Calls SIX_WORDS = words("/////");
    static final Calls SIXTY_LETTERS = words(A60);
    static final Calls SIXTY_IN_SIX = words("aaaaaaaaaa/bbbbbbbbbb/aaaaaaaaaa/bbbbbbbbbb/aaaaaaaaaa/bbbbbbbbbb");
    /** All versions that there can be; the present one is a word without letters. */
    static final Calls FULL = Calls.versions(400);

    /** Pads that are no correct pattern. */
    static final String[] NO_PATTERNS = {"", "/", "a/", "/a", "ab/ba", "i", "`", "A", "H", "a?", "!", "~", A60.substring(1) + "i"};

    private static final Map<String, Set<String>> QUOTED = new LinkedHashMap<>();
    private static String chapter = "";
    private static String sentence = "";
    private static int checks = 0;
    private static int wrong = 0;

    static int checks() {
        return checks;
    }

    static int wrong() {
        return wrong;
    }

    static Map<String, Set<String>> quoted() {
        return QUOTED;
    }

    static void chapter(String heading) {
        chapter = heading;
        sentence = "";
        QUOTED.put(heading, new LinkedHashSet<>());
    }

    static void says(String words) {
        sentence = words;
        if (!QUOTED.get(chapter).add(words)) fault("these words are quoted twice");
    }

    static void fault(String text) {
        wrong++;
        System.out.println(chapter + ", \"" + sentence + "\": " + text);
    }

    /** An object whose words are those of a text with "/" between them. */
    static Calls words(String text) {
        return EMPTY_WORD.grow(text);
    }

    /** What an argument may not be: the first values on each side of a range, and those that a narrower number would take for allowed ones. */
    static int[] outside(int low, int high) {
        return new int[] {low - 1, high + 1, low - 256, high + 256, low - 65536, high + 65536, MIN, MIN + 1, MAX - 1, MAX};
    }

    /** The answer of a call that changes nothing. */
    static void answers(Calls story, int want, String name, int... arguments) {
        Run run = new Run(story);
        check(story, run, want, run.ofProgram(name, arguments), name, arguments);
    }

    /** The answer of a call that fails, or that finds nothing: nothing has changed after it. */
    static void refuses(Calls story, int want, String name, int... arguments) {
        if (want >= 0) fault(want + " is no refusal");
        answers(story, want, name, arguments);
    }

    /** The answer of a call that changes words, versions or pad, which then are as the plain model has them. */
    static void moves(Calls story, int want, String name, int... arguments) {
        Run run = new Run(story);
        run.ofModel(name, arguments);
        check(story, run, want, run.ofProgram(name, arguments), name, arguments);
    }

    /** A call that answers a length and writes so many letters to the pad, and changes nothing else. */
    static void writes(Calls story, String text, String name, int... arguments) {
        Run run = new Run(story);
        int got = run.ofProgram(name, arguments);
        run.ofModel("wipe");
        for (char c : text.toCharArray()) run.ofModel("say", c);
        check(story, run, text.length(), got, name, arguments);
    }

    private static void check(Calls story, Run run, int want, int got, String name, int... arguments) {
        checks++;
        Calls.Call call = new Calls.Call(name, arguments);
        run.exam();
        if (got != want) fault(story + "then " + call + " answered " + got + ", due is " + want);
        if (!run.difference().isEmpty()) fault(story + "then " + call + " then " + run.difference());
    }
}
