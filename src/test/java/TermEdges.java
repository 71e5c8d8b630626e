import java.lang.reflect.Method;
import java.lang.reflect.Modifier;

/** The boundary cases that the document's terms name, for all promises together. */
final class TermEdges extends Edges {
    /** Versions 1 to 6 are ab/ba, 7 to 9 go on from 3 with a/b; and a wrong text on the pad. */
    private static final Calls MIXED = words("ab/ba").go(3).grow("a/b").say("ab?");

    static void run() {
        lastCall();
        chapter("Terms");
        failures();
        manyFailures();
        firstError();
        none();
        numbering();
        words();
        versions();
        factors();
        classes();
        pad();
        constants();
    }

    private static void lastCall() {
        chapter("What it is");
        says("An object is used for at most 512 calls after it has been made; what later calls answer is free.");
        Run run = new Run(EMPTY_WORD);
        int calls = 1;
        for (int made = 2; made < 400; made++) {
            if (made % 60 == 2 && made > 2) {
                run.same("go", 1);
                calls++;
            }
            run.same("append", made % 7);
            calls++;
        }
        String[] questions = {"count", "occurs", "fault", "end", "pad", "go", "spell", "kth", "version", "absent"};
        for (; calls < 511; calls++) {
            String name = questions[calls % 10];
            if (calls % 10 == 7 || calls % 10 == 8) run.same(name, 1 + calls % 5, calls % 6);
            else run.same(name, calls % 8);
        }
        run.same("begin");
        if (!run.difference().isEmpty()) fault("within 512 calls " + run.difference());
    }

    private static void failures() {
        says("All numbers are integers.");
        for (Method method : FactorBranches.class.getDeclaredMethods()) {
            if (!Modifier.isPublic(method.getModifiers())) continue;
            if (method.getReturnType() != int.class) fault(method + " answers no integer");
            for (Class<?> type : method.getParameterTypes()) if (type != int.class) fault(method + " takes no integer");
        }

        says("A method that fails returns one of the error codes NO_SUCH (-1), BAD_VALUE (-2), BAD_TEXT (-3), TOO_MANY (-4) and NOT_POSSIBLE (-5) and changes nothing");
        refuses(MIXED, -1, "go", 10);
        refuses(MIXED, -2, "append", 8);
        refuses(MIXED, -3, "load");
        refuses(SIX_WORDS.say("ab?"), -4, "begin");
        refuses(MIXED.go(0), -5, "append", 0);
        answers(MIXED, 9, "count", 0);
        answers(MIXED, 10, "count", 1);
    }

    /** All that can fail, one call after the other on one object, which is then as if none had been made. */
    private static void manyFailures() {
        Calls[] stories = {MIXED, MIXED.go(0), NEW.say("?"), SIXTY_IN_SIX.say("/h?"), FULL.say("?"), FULL.go(0).say("i")};
        for (Calls story : stories) {
            Run run = new Run(story);
            for (int wrongOne : new int[] {-2, 1000}) {
                for (String name : new String[] {"append", "go", "back", "say", "fault", "occurs", "matches", "spell", "unique", "absent", "count", "end"}) {
                    mustFail(run, name, wrongOne);
                }
                for (String name : new String[] {"version", "meet", "more", "letter", "factors", "kth", "group", "step", "common"}) {
                    mustFail(run, name, wrongOne, 1);
                    mustFail(run, name, wrongOne, wrongOne);
                }
            }
            for (String name : new String[] {"load", "parts", "before"}) mustFail(run, name);
            run.exam();
            if (!run.difference().isEmpty()) fault(story + "then many failures, then " + run.difference());
        }
    }

    private static void mustFail(Run run, String name, int... arguments) {
        int got = run.ofProgram(name, arguments);
        if (got >= 0 || got <= NONE) fault(new Calls.Call(name, arguments) + " answered " + got + " and not an error");
    }

    private static void firstError() {
        says("it names its errors in the order in which they are checked, and the first that applies is returned.");
        Calls full = FULL.go(0).say("a?");
        refuses(full, BAD_VALUE, "append", 8);
        refuses(full, NOT_POSSIBLE, "append", 7);
        refuses(full, BAD_TEXT, "load");
        refuses(FULL.go(0).say("a"), NOT_POSSIBLE, "load");
        refuses(full, NO_SUCH, "version", 400, 6);
        refuses(NEW.say(A60), BAD_VALUE, "say", 32);
        refuses(full, BAD_VALUE, "occurs", 4);
        refuses(full, BAD_TEXT, "matches", 0);
        refuses(full, NO_SUCH, "group", 0, 7);
        refuses(full, NO_SUCH, "step", 0, 8);
        refuses(full, NO_SUCH, "common", 1, 0);
        refuses(full, NO_SUCH, "common", -1, 7);
        refuses(SIXTY_LETTERS, BAD_VALUE, "absent", 0);
        refuses(SIXTY_LETTERS, BAD_VALUE, "absent", 9);
    }

    private static void none() {
        says("NONE (-6) is not an error; it is returned only if no error applies.");
        refuses(NEW, BAD_VALUE, "back", 401);
        refuses(NEW, NO_SUCH, "version", 1, 0);
        refuses(NEW, NO_SUCH, "letter", 0, 60);
        refuses(NEW, BAD_TEXT, "occurs", 2);
        refuses(NEW, BAD_TEXT, "end", -1);
        refuses(NEW, BAD_TEXT, "parts");
        refuses(NEW, BAD_VALUE, "kth", 0, -1);
        refuses(NEW, NO_SUCH, "group", 0, 3);
        refuses(NEW, BAD_VALUE, "step", -1, 8);
        refuses(NEW, NO_SUCH, "step", 0, 0);
        refuses(NEW, BAD_VALUE, "common", 0, 7);
        refuses(NEW, NO_SUCH, "common", 1, 1);
        refuses(NEW, BAD_VALUE, "unique", 0);
        refuses(NEW, NO_SUCH, "unique", 1);
        refuses(NEW, BAD_VALUE, "fault", 2);
    }

    private static void numbering() {
        says("Everything is numbered from 0.");
        Calls story = words("ab").say("a");
        moves(story, 3, "go", 0);
        answers(story, 0, "letter", 0, 0);
        answers(story, 'a', "pad", 0);
        answers(story, 0, "end", 0);
        writes(story, "a", "kth", 1, 0);
        writes(story, "a", "spell", 0);

        says("Sets of words are bit masks: bit w stands for word w.");
        Calls six = words("a/b/c/d/e/f");
        for (int word = 0; word < 6; word++) {
            String letter = "abcdef".substring(word, word + 1);
            answers(six.say(letter), 1 << word, "occurs", 1);
            answers(six, 1 << word, "group", word, 5);
            writes(six, letter, "common", 1 << word, 1);
            writes(six, letter, "unique", 1 << word);
        }
    }

    private static void words() {
        says("A letter is one of a to h; in calls, letters are the numbers 0 to 7.");
        for (int letter = 0; letter < 8; letter++) {
            writes(EMPTY_WORD.then("append", letter), String.valueOf((char) ('a' + letter)), "spell", 0);
            answers(EMPTY_WORD.then("say", 'a' + letter).then("load"), letter, "letter", 0, 0);
        }

        says("There are up to 6 words, each a sequence of 0 to 60 letters; all words together have at most 60 letters.");
        answers(SIX_WORDS, 6, "count", 2);
        refuses(SIX_WORDS, TOO_MANY, "begin");
        answers(SIX_WORDS, 0, "letter", 0, -1);
        answers(words("/////" + A60), 60, "letter", 5, -1);
        answers(SIXTY_LETTERS, 60, "letter", 0, -1);
        refuses(SIXTY_LETTERS, TOO_MANY, "append", 0);
        refuses(words(A60 + "/"), TOO_MANY, "append", 0);
        refuses(words(A60.substring(1) + "/a/"), TOO_MANY, "append", 0);
        moves(words(A60.substring(1) + "/"), 62, "append", 0);

        says("A word with the number w is written by its letters; the text of all words is written with \"/\" between each two of them.");
        answers(words("ab//c"), 3, "count", 2);
        answers(words("").say("ab//c").then("load"), 3, "count", 2);
        answers(words("").say("ab//c").then("load"), 2, "letter", 2, 0);
    }

    private static void versions() {
        says("A version consists of words. Version 0 has no words.");
        answers(NEW, 0, "version", 0, 2);
        answers(MIXED, 0, "version", 0, 2);
        answers(MIXED.go(0), 0, "count", 2);
        refuses(MIXED.go(0), NO_SUCH, "letter", 0, -1);

        says("Each successful call of begin() or append() makes a new version from the present one, which becomes its parent; the new version is the present one then.");
        answers(MIXED.go(5).grow("h"), 10, "count", 0);
        answers(MIXED.go(5).grow("h"), 5, "version", 10, 0);
        answers(MIXED.go(2).begin(), 10, "count", 0);
        answers(MIXED.go(2).begin(), 2, "version", 10, 0);
        answers(MIXED.go(2).begin(), 3, "version", 4, 0);

        says("Versions are numbered in the order in which they were made; there can be 400, version 0 included.");
        moves(MIXED.go(1), 10, "append", 0);
        moves(MIXED.go(1).grow("a").go(0), 11, "begin");
        answers(FULL, 400, "count", 1);
        moves(FULL, 1, "go", 399);
        refuses(FULL, NO_SUCH, "go", 400);
        refuses(FULL, TOO_MANY, "append", 0);

        says("Other calls go to an earlier version, which is the present one then; no version is ever removed.");
        answers(MIXED.go(4), 4, "count", 0);
        answers(MIXED.then("back", 3), 3, "count", 0);
        answers(MIXED.go(0), 10, "count", 1);
        moves(MIXED.go(0), 0, "go", 9);
        moves(MIXED.then("back", 3).grow("c"), 10, "go", 6);

        says("All questions are about the present version, unless told otherwise.");
        answers(MIXED, 5, "factors", 1, 0);
        answers(MIXED.go(3), 3, "factors", 1, 0);
        answers(MIXED.go(0), 0, "factors", 1, 0);
        answers(MIXED.go(0), 5, "more", 9, 0);
        // Nothing of a longer version is left in the answers about a shorter one.
        answers(words("aaaba").then("count", 4).go(3), 2, "group", 0, 2);
        answers(words("aaaba").then("count", 4).go(3), 0, "factors", 3, 0);
        answers(SIXTY_LETTERS.then("kth", 1, 59).go(31), 30, "group", 0, 2);
        answers(SIXTY_LETTERS.then("kth", 1, 59).go(31), 30, "before");
        Run run = new Run(words("abba/bab").go(4).grow("cab").go(0).begin().say("ba"));
        for (int version : new int[] {9, 12, 0, 4, 13, 12, 9}) {
            run.same("go", version);
            askAll(run);
        }
        run.exam();
        if (!run.difference().isEmpty()) fault("asked in several versions in turn, " + run.difference());
    }

    /** The pad is ba before and after it. */
    private static void askAll(Run run) {
        String[] ofOne = {"occurs", "end", "matches", "count", "absent", "spell", "unique"};
        String[] ofTwo = {"letter", "factors", "group", "step", "common", "kth"};
        for (String name : new String[] {"parts", "before", "minimal"}) run.same(name);
        for (String name : ofOne) run.same(name, 1);
        for (String name : ofTwo) for (int second = 1; second < 3; second++) run.same(name, 1, second);
        run.same("wipe");
        run.same("say", 'b');
        run.same("say", 'a');
    }

    private static void factors() {
        Calls two = words("abab/bab");
        says("A factor of a word is a sequence of one or more successive letters of it.");
        answers(words("abc").say("ac"), 0, "occurs", 0);
        answers(words("abc").say("b"), 1, "occurs", 0);
        answers(words("abc").say("abc"), 1, "occurs", 0);
        answers(words("a/b").say("ab"), 0, "occurs", 0);
        answers(words("abc"), 6, "factors", 1, 0);

        says("It occurs in word w with the end e if it consists of the letters that end with the letter e of the word (counted from 0).");
        answers(words("//abc").say("bc"), 202, "end", 0);
        answers(words("//abc").say("a"), 200, "end", 0);

        says("The ends of a factor are all pairs (w, e) with which it occurs; the first end is that with the lowest w, and of these with the lowest e.");
        answers(words("bba/a").say("a"), 2, "end", 0);
        answers(words("bba/a").say("a"), 100, "end", 1);
        answers(words("bba/a"), 2, "group", 2, 6);
        answers(words("aaa").say("aa"), 2, "occurs", 0);

        says("A sequence of letters is called a factor if it has at least one end.");
        answers(words("ab").say("b"), 1, "matches", 1);
        answers(words("ab").say("c"), 0, "matches", 1);
        refuses(words("ab").say("c"), NONE, "occurs", 2);

        says("Sequences of letters are compared lexicographically; a sequence comes after each of its own beginnings.");
        answers(two.say("ab"), 1, "before");
        answers(two.say("aba"), 2, "before");
        answers(two.say("b"), 4, "before");
        writes(words("ba"), "b", "kth", 1, 1);
        writes(words("ba"), "ba", "kth", 1, 2);
    }

    private static void classes() {
        Calls two = words("abcbc/abc");
        says("Two factors belong to the same class if they have the same ends.");
        answers(two.say("c"), 3, "occurs", 2);
        answers(two.say("bc"), 3, "occurs", 2);
        answers(two.say("b"), 1, "occurs", 2);
        answers(two.say("ab"), 2, "occurs", 2);
        answers(words("a/a"), 1, "count", 4);

        says("In each class, there is one longest factor, and the others are ends of it (of all lengths from that of the shortest one on).");
        for (String factor : new String[] {"cbc", "bcbc", "abcbc"}) answers(two.say(factor), 6, "occurs", 2);
        answers(two, 5, "group", 6, 0);
        answers(two, 3, "group", 6, 1);

        says("Classes are numbered by the first ends of their factors, lowest words first, then lowest ends, and those with the same first end by the lengths of their longest factors, the shortest first.");
        String[] longest = {"a", "b", "ab", "bc", "abc", "abcb", "abcbc"};
        for (int i = 0; i < longest.length; i++) writes(two, longest[i], "spell", i);
        String[] others = {"b", "a", "ba", "c"};
        for (int i = 0; i < others.length; i++) writes(words("ba/a//c"), others[i], "spell", i);

        says("The link of a class is the class of the longest proper end of its shortest factor (that is, of this factor without its first letter); there is none if the shortest factor has only one letter.");
        int[] links = {NONE, NONE, 1, NONE, 3, 1, 3};
        for (int i = 0; i < links.length; i++) answers(two, links[i], "group", i, 3);

        says("The steps of a class are the letters x for which its longest factor followed by x is a factor.");
        int[] steps = {2, 4, 4, 2, 2, 4, 0};
        for (int i = 0; i < steps.length; i++) answers(two, steps[i], "group", i, 4);
    }

    private static void pad() {
        says("The pad is a text of at most 60 characters, which is read as a pattern, a sequence of letters a to h, or as words, separated by \"/\".");
        moves(NEW.say(A60.substring(1)), 60, "say", '~');
        refuses(NEW.say(A60), TOO_MANY, "say", 'a');
        answers(words("ab").say("ab"), 1, "occurs", 0);
        moves(NEW.say("/ab/"), 4, "load");

        says("A pattern is correct if it has at least one character, and all are letters; words are correct if there are only letters and \"/\" (also if the pad is empty).");
        refuses(NEW.say("a"), NONE, "fault", 0);
        refuses(NEW.say("h"), NONE, "fault", 0);
        refuses(NEW.say(A60), NONE, "fault", 0);
        answers(NEW, 0, "fault", 0);
        refuses(NEW, NONE, "fault", 1);
        refuses(NEW.say("/"), NONE, "fault", 1);
        refuses(NEW.say("a/h//"), NONE, "fault", 1);

        says("The fault of a text that is not correct is the index of the first character that is not allowed, or, for an empty pattern, 0.");
        answers(NEW.say("?a?"), 0, "fault", 0);
        answers(NEW.say("a/?"), 1, "fault", 0);
        answers(NEW.say("a/?"), 2, "fault", 1);
        answers(NEW.say(A60.substring(1) + "?"), 59, "fault", 1);
    }

    private static void constants() {
        says("The constants: NO_SUCH = -1, BAD_VALUE = -2, BAD_TEXT = -3, TOO_MANY = -4, NOT_POSSIBLE = -5, NONE = -6: Error codes, and NONE: there is none.");
        int[] values = {FactorBranches.NO_SUCH, FactorBranches.BAD_VALUE, FactorBranches.BAD_TEXT, FactorBranches.TOO_MANY,
            FactorBranches.NOT_POSSIBLE, FactorBranches.NONE};
        for (int i = 0; i < values.length; i++) if (values[i] != -1 - i) fault("constant " + i + " is " + values[i]);
    }
}
