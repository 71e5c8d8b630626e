/** The boundary cases of distinct factors, classes, several words and numbers: promises 19 to 29. */
final class FactorEdges extends Edges {
    /** Its factors in order; with 3, 3, 1, 1, 4, 2 and 2 ends. */
    private static final Calls SMALL = words("abab/bab");
    private static final String[] FACTORS = {"a", "ab", "aba", "abab", "b", "ba", "bab"};
    /** The longest factors of its classes, in their order. */
    private static final String[] CLASSES = {"a", "b", "ab", "ba", "aba", "bab", "abab"};
    /** The most classes that one word of 60 letters can have: 118. */
    private static final Calls MOST_CLASSES = words("a" + "b".repeat(59));

    static void run() {
        factors();
        kth();
        before();
        group();
        groupRefused();
        spell();
        step();
        common();
        commonRefused();
        unique();
        absent();
        minimal();
        count();
    }

    private static void factors() {
        chapter("Promise 19: factors");
        says("Counts distinct factors.");
        answers(SMALL, 7, "factors", 1, 0);
        answers(SMALL.go(3), 3, "factors", 1, 0);
        answers(words("ab/ab/ab"), 3, "factors", 1, 0);
        answers(SIXTY_IN_SIX, 20, "factors", 1, 0);

        says("least: those with at least so many ends, 1 to 60");
        int[] often = {7, 5, 3, 1, 0};
        for (int least = 1; least <= 5; least++) answers(SMALL, often[least - 1], "factors", least, 0);
        answers(SIXTY_LETTERS, 1, "factors", 60, 0);
        answers(SIXTY_LETTERS, 2, "factors", 59, 0);
        answers(SIXTY_LETTERS, 59, "factors", 2, 0);
        answers(SIXTY_IN_SIX, 0, "factors", 31, 0);
        answers(SIXTY_IN_SIX, 2, "factors", 30, 0);
        answers(SMALL, 0, "factors", 60, 0);

        says("length: those with so many letters, or 0 for all lengths; 0 to 60");
        int[] long1 = {7, 2, 2, 2, 1, 0};
        for (int length = 0; length <= 5; length++) answers(SMALL, long1[length], "factors", 1, length);
        answers(SIXTY_LETTERS, 1, "factors", 1, 60);
        answers(SIXTY_LETTERS, 0, "factors", 2, 60);
        answers(SIXTY_LETTERS, 1, "factors", 60, 1);
        answers(SIXTY_LETTERS, 0, "factors", 60, 2);
        answers(SIXTY_LETTERS, 0, "factors", 60, 60);
        answers(words(A60.substring(1)), 0, "factors", 1, 60);

        says("Returns their number");
        for (int length : new int[] {0, 1, 60}) {
            answers(NEW, 0, "factors", 1, length);
            answers(SIX_WORDS, 0, "factors", 1, length);
        }
        answers(SIXTY_LETTERS, 60, "factors", 1, 0);

        says("BAD_VALUE if an argument is out of range.");
        for (int least : outside(1, 60)) {
            refuses(SMALL, BAD_VALUE, "factors", least, 0);
            refuses(NEW, BAD_VALUE, "factors", least, 60);
            refuses(SMALL, BAD_VALUE, "factors", least, 61);
            refuses(SMALL, BAD_VALUE, "factors", least, -1);
        }
        for (int length : outside(0, 60)) {
            refuses(SMALL, BAD_VALUE, "factors", 1, length);
            refuses(NEW, BAD_VALUE, "factors", 60, length);
            refuses(SMALL, BAD_VALUE, "factors", 0, length);
        }
    }

    private static void kth() {
        chapter("Promise 20: kth");
        says("Finds a distinct factor by its place in lexicographic order, and writes it to the pad in place of what it had.");
        for (int k = 0; k < FACTORS.length; k++) {
            writes(SMALL, FACTORS[k], "kth", 1, k);
            writes(SMALL.say("/?"), FACTORS[k], "kth", 1, k);
            writes(SMALL.say(A60), FACTORS[k], "kth", 1, k);
        }
        writes(SMALL.go(2), "a", "kth", 1, 0);
        String[] shared = {"a", "ab", "aba", "abac", "abacab", "ac", "aca", "acab", "b"};
        int[] places = {0, 1, 2, 3, 5, 6, 7, 8, 9};
        for (int i = 0; i < shared.length; i++) writes(words("abacab"), shared[i], "kth", 1, places[i]);

        says("least: among those with at least so many ends, 1 to 60");
        String[] twice = {"a", "ab", "b", "ba", "bab"};
        for (int k = 0; k < twice.length; k++) writes(SMALL, twice[k], "kth", 2, k);
        String[] thrice = {"a", "ab", "b"};
        for (int k = 0; k < thrice.length; k++) writes(SMALL, thrice[k], "kth", 3, k);
        writes(SMALL, "b", "kth", 4, 0);
        writes(SIXTY_LETTERS, "a", "kth", 60, 0);
        writes(SIXTY_LETTERS, "aa", "kth", 59, 1);

        says("k: its place, from 0");
        writes(SIXTY_LETTERS, "a", "kth", 1, 0);
        writes(SIXTY_LETTERS, A60, "kth", 1, 59);
        writes(words("h/g"), "g", "kth", 1, 0);
        writes(words("h/g"), "h", "kth", 1, 1);
        // What was found in an earlier version is of no use in a full one.
        Calls asked = words("ba").then("kth", 1, 0).grow("a".repeat(58));
        writes(asked, "b" + "a".repeat(59), "kth", 1, 118);
        refuses(asked, NONE, "kth", 1, 119);

        says("Returns its length");
        writes(words("a"), "a", "kth", 1, 0);

        says("BAD_VALUE if least is out of range");
        for (int least : outside(1, 60)) {
            for (int k : new int[] {0, 6, 7, -1, MIN, MAX}) refuses(SMALL.say("stays"), BAD_VALUE, "kth", least, k);
            refuses(NEW, BAD_VALUE, "kth", least, 0);
        }

        says("NONE if there are not so many (also for k below 0; the pad stays then).");
        for (int k : outside(0, 6)) refuses(SMALL.say("stays"), NONE, "kth", 1, k);
        for (int k : outside(0, 4)) refuses(SMALL.say("/?"), NONE, "kth", 2, k);
        for (int k : outside(0, 0)) refuses(SMALL, NONE, "kth", 4, k);
        for (int k : outside(0, 59)) refuses(SIXTY_LETTERS.say(A60), NONE, "kth", 1, k);
        refuses(SMALL.say("stays"), NONE, "kth", 5, 0);
        refuses(SMALL.say("stays"), NONE, "kth", 60, 0);
        for (int k = -1; k < 2; k++) {
            refuses(NEW.say("stays"), NONE, "kth", 1, k);
            refuses(SIX_WORDS.say("stays"), NONE, "kth", 60, k);
        }
    }

    private static void before() {
        chapter("Promise 21: before");
        says("Returns how many distinct factors come before the pattern lexicographically (whether it is a factor or not).");
        for (int k = 0; k < FACTORS.length; k++) answers(SMALL.say(FACTORS[k]), k, "before");
        String[] others = {"aa", "aba".repeat(20), "ababa", "ac", "ah", "baa", "baba", "bb", "c", "h"};
        int[] want = {1, 3, 4, 4, 4, 6, 7, 7, 7, 7};
        for (int i = 0; i < others.length; i++) answers(SMALL.say(others[i]), want[i], "before");

        says("Returns the number");
        answers(NEW.say("h"), 0, "before");
        answers(SIX_WORDS.say("h"), 0, "before");
        answers(SIXTY_LETTERS.say("a"), 0, "before");
        answers(SIXTY_LETTERS.say(A60), 59, "before");
        answers(SIXTY_LETTERS.say("b"), 60, "before");
        answers(words(A60.substring(1)).say(A60), 59, "before");
        answers(words("h").say("a"), 0, "before");

        says("BAD_TEXT if the pattern is not correct.");
        for (String text : NO_PATTERNS) {
            refuses(SMALL.say(text), BAD_TEXT, "before");
            refuses(NEW.say(text), BAD_TEXT, "before");
        }
    }

    private static void groupIs(Calls story, int index, int... want) {
        for (int what = 0; what < want.length; what++) answers(story, want[what], "group", index, what);
    }

    private static void group() {
        chapter("Promise 22: group");
        says("Returns a number about a class.");
        answers(SMALL.go(4), 2, "group", 0, 2);
        answers(SMALL.go(2), 1, "group", 0, 2);

        says("index: the number of the class");
        groupIs(words("h"), 0, 1, 1, 1, NONE, 0, 1, 0);
        groupIs(SMALL, 0, 1, 1, 3, NONE, 2, 3, 0);
        groupIs(SMALL, 6, 4, 4, 1, 5, 0, 1, 3);
        groupIs(MOST_CLASSES, 0, 1, 1, 1, NONE, 2, 1, 0);
        groupIs(MOST_CLASSES, 117, 60, 59, 1, 115, 0, 1, 59);

        says("what: 0 for the length of its longest factor, 1 for that of its shortest one, 2 for the number of ends, 3 for its link (NONE if there is none), 4 for its steps as a set of letters (bit x for letter x), 5 for the set of the words in which its factors occur, 6 for its first end (100 times the word plus the end)");
        groupIs(SMALL, 1, 1, 1, 4, NONE, 1, 3, 1);
        groupIs(SMALL, 2, 2, 2, 3, 1, 1, 3, 1);
        groupIs(SMALL, 3, 2, 2, 2, 0, 2, 3, 2);
        groupIs(SMALL, 4, 3, 3, 1, 3, 2, 1, 2);
        groupIs(SMALL, 5, 3, 3, 2, 2, 0, 3, 3);
        groupIs(words("abc"), 2, 3, 1, 1, NONE, 0, 1, 2);
        groupIs(words("ah/ab/ag"), 0, 1, 1, 3, NONE, 2 + 64 + 128, 7, 0);
        groupIs(words("aabacadaeafagah"), 0, 1, 1, 8, NONE, 255, 1, 0);
        groupIs(words("h/h/h/h/h/h"), 0, 1, 1, 6, NONE, 0, 63, 0);
        groupIs(SIXTY_LETTERS, 0, 1, 1, 60, NONE, 1, 1, 0);
        groupIs(SIXTY_LETTERS, 59, 60, 60, 1, 58, 0, 1, 59);
        groupIs(words("/////" + A60), 59, 60, 60, 1, 58, 0, 32, 559);
    }

    private static void groupRefused() {
        says("Returns the number");
        answers(SMALL, 0, "group", 3, 3);

        says("NO_SUCH if there is no such class");
        for (int what = -1; what <= 7; what++) {
            for (int index : outside(0, 6)) refuses(SMALL, NO_SUCH, "group", index, what);
            refuses(NEW, NO_SUCH, "group", 0, what);
            refuses(NEW, NO_SUCH, "group", -1, what);
            refuses(SIX_WORDS, NO_SUCH, "group", 0, what);
        }
        refuses(MOST_CLASSES, NO_SUCH, "group", 118, 0);
        refuses(SMALL, NO_SUCH, "group", 7, MIN);
        refuses(SMALL.go(2), NO_SUCH, "group", 1, 0);

        says("BAD_VALUE if what is not 0 to 6.");
        for (int what : outside(0, 6)) {
            refuses(SMALL, BAD_VALUE, "group", 0, what);
            refuses(SMALL, BAD_VALUE, "group", 6, what);
        }
    }

    private static void spell() {
        chapter("Promise 23: spell");
        says("Writes the longest factor of a class to the pad in place of what it had.");
        for (int index = 0; index < CLASSES.length; index++) {
            writes(SMALL, CLASSES[index], "spell", index);
            writes(SMALL.say("/?"), CLASSES[index], "spell", index);
            writes(SMALL.say(A60), CLASSES[index], "spell", index);
        }
        writes(words("abc"), "abc", "spell", 2);
        writes(SMALL.go(3), "ab", "spell", 1);

        says("index: the number of the class");
        writes(MOST_CLASSES, "a", "spell", 0);
        writes(MOST_CLASSES, "a" + "b".repeat(59), "spell", 117);

        says("Returns its length");
        writes(words("h"), "h", "spell", 0);
        writes(SIXTY_LETTERS, A60, "spell", 59);

        says("NO_SUCH if there is no such class.");
        for (int index : outside(0, 6)) refuses(SMALL.say("stays"), NO_SUCH, "spell", index);
        for (int index : outside(0, 117)) refuses(MOST_CLASSES.say("?"), NO_SUCH, "spell", index);
        for (int index = -1; index < 2; index++) {
            refuses(NEW.say("stays"), NO_SUCH, "spell", index);
            refuses(SIX_WORDS.say("stays"), NO_SUCH, "spell", index);
        }
        refuses(SMALL.go(3).say("stays"), NO_SUCH, "spell", 2);
    }

    private static void step() {
        chapter("Promise 24: step");
        says("Returns the class to which a step leads: that of its longest factor followed by a letter.");
        int[][] rows = {{0, 1, 2}, {1, 0, 3}, {2, 0, 4}, {3, 1, 5}, {4, 1, 6}};
        for (int[] row : rows) answers(SMALL, row[2], "step", row[0], row[1]);
        // The longest factor of class 1 of abc/b is b, that of class 2 is ab; both lead to abc.
        answers(words("abc/b"), 3, "step", 1, 2);
        answers(words("abc/b"), 3, "step", 2, 2);

        says("index: the number of the class, or -1 for the empty sequence");
        answers(SMALL, 0, "step", -1, 0);
        answers(SMALL, 1, "step", -1, 1);
        answers(MOST_CLASSES, 2, "step", 0, 1);
        refuses(MOST_CLASSES, NONE, "step", 117, 1);
        answers(MOST_CLASSES, 117, "step", 116, 1);

        says("letter: 0 to 7");
        for (int letter = 0; letter < 8; letter++) answers(words("a/b/c/def/g/h"), letter, "step", -1, letter);
        answers(words("ah"), 1, "step", 0, 7);

        says("Returns the class");
        answers(words("ha"), 0, "step", -1, 7);
        answers(SIXTY_LETTERS, 59, "step", 58, 0);

        says("NO_SUCH if there is no such class");
        for (int letter = -1; letter <= 8; letter++) {
            for (int index : outside(-1, 6)) refuses(SMALL, NO_SUCH, "step", index, letter);
            for (int index : outside(-1, -1)) refuses(NEW, NO_SUCH, "step", index, letter);
        }
        refuses(MOST_CLASSES, NO_SUCH, "step", 118, 0);
        refuses(SMALL, NO_SUCH, "step", -2, MAX);
        refuses(EMPTY_WORD, NO_SUCH, "step", 0, 0);

        says("BAD_VALUE if letter is out of range");
        for (int letter : outside(0, 7)) {
            for (int index : new int[] {-1, 0, 6}) refuses(SMALL, BAD_VALUE, "step", index, letter);
            refuses(NEW, BAD_VALUE, "step", -1, letter);
        }

        says("NONE if this is no factor.");
        for (int letter = 2; letter < 8; letter++) refuses(SMALL, NONE, "step", -1, letter);
        for (int letter = 0; letter < 8; letter++) {
            refuses(NEW, NONE, "step", -1, letter);
            refuses(SIX_WORDS, NONE, "step", -1, letter);
            refuses(SMALL, NONE, "step", 5, letter);
            refuses(SMALL, NONE, "step", 6, letter);
            refuses(SIXTY_LETTERS, NONE, "step", 59, letter);
        }
        refuses(words("a/b"), NONE, "step", 0, 1);
        // ad is a factor, but neither bd nor cad nor bcd is.
        refuses(words("ad/b"), NONE, "step", 2, 3);
        refuses(words("bad/ca"), NONE, "step", 5, 3);
        refuses(words("bad/bc"), NONE, "step", 3, 3);
    }

    private static void common() {
        chapter("Promise 25: common");
        says("Finds a longest factor that occurs in at least some of the words of a set, and writes it to the pad in place of what it had; of several, the least one lexicographically.");
        writes(words("cdab/abcd"), "ab", "common", 3, 2);
        writes(words("cdab/abcd").say("/?"), "abcd", "common", 3, 1);
        writes(words("ba/ab").say(A60), "a", "common", 3, 2);
        writes(words("hg/gh/gh"), "gh", "common", 7, 2);
        writes(words("hg/gh/hg"), "hg", "common", 7, 2);
        writes(words("ac/ab"), "ab", "common", 3, 1);
        writes(words("ab/ac"), "ab", "common", 3, 1);
        writes(words("bad/bab/bac"), "bab", "common", 7, 1);
        writes(SIXTY_LETTERS, A60, "common", 1, 1);
        writes(words("aa/a/b").say(A60), "aa", "common", 1, 1);

        says("words: the set");
        Calls six = words("ab/ba/ab/ba/ab/bah");
        writes(six, "bah", "common", 63, 1);
        writes(six, "ab", "common", 31, 1);
        writes(six, "bah", "common", 32, 1);
        writes(six, "ab", "common", 1, 1);
        writes(six, "ba", "common", 2, 1);
        writes(words("ab/ba"), "ba", "common", 2, 1);

        says("least: in at least so many of them, 1 to 6");
        writes(six, "ab", "common", 63, 2);
        writes(six, "ab", "common", 63, 3);
        writes(six, "a", "common", 63, 4);
        writes(six, "a", "common", 63, 6);
        writes(six, "ba", "common", 42, 3);

        says("Returns its length");
        writes(words("h"), "h", "common", 1, 1);
        writes(words("/////" + A60), A60, "common", 63, 1);
    }

    private static void commonRefused() {
        Calls three = words("ab//b").say("stays");
        says("NO_SUCH if the set contains a word that does not exist, or is negative");
        for (int words : new int[] {8, 9, 15, 16, 32, 64, 256, 65536, 1 << 30, MAX, -1, -8, MIN, MIN + 1, MIN + 7}) {
            for (int least = 0; least <= 7; least++) refuses(three, NO_SUCH, "common", words, least);
        }
        refuses(NEW, NO_SUCH, "common", 1, 1);
        refuses(NEW, NO_SUCH, "common", 1, 0);
        refuses(NEW, NO_SUCH, "common", -1, 1);
        refuses(three.go(4), NO_SUCH, "common", 4, 1);
        for (int words : outside(0, 63)) refuses(SIX_WORDS, NO_SUCH, "common", words, 1);

        says("BAD_VALUE if least is out of range");
        for (int least : outside(1, 6)) {
            for (int words = 0; words < 8; words++) refuses(three, BAD_VALUE, "common", words, least);
            refuses(NEW, BAD_VALUE, "common", 0, least);
        }

        says("NONE if there is none (as with an empty set, or with fewer words in it than least; the pad stays then).");
        for (int least = 1; least <= 6; least++) {
            refuses(NEW.say("stays"), NONE, "common", 0, least);
            refuses(three, NONE, "common", 0, least);
            refuses(SIX_WORDS.say("stays"), NONE, "common", 63, least);
        }
        refuses(three, NONE, "common", 2, 1);
        refuses(three, NONE, "common", 7, 3);
        refuses(three, NONE, "common", 5, 3);
        refuses(three, NONE, "common", 1, 2);
        refuses(three, NONE, "common", 7, 6);
        refuses(words("a/b").say(A60), NONE, "common", 3, 2);
        refuses(SIXTY_LETTERS.say("stays"), NONE, "common", 1, 2);
        refuses(words("a/a/a/a/a").say("stays"), NONE, "common", 31, 6);
    }

    private static void unique() {
        chapter("Promise 26: unique");
        says("Finds a shortest factor that occurs in all words of a set, and in no other word, and writes it to the pad in place of what it had; of several, the least one lexicographically.");
        Calls three = words("abba/bab/acca");
        writes(three, "bb", "unique", 1);
        writes(three.say("/?"), "bab", "unique", 2);
        writes(three.say(A60), "b", "unique", 3);
        writes(three, "c", "unique", 4);
        writes(three, "a", "unique", 7);
        writes(words("hgc/c"), "g", "unique", 1);
        writes(words("ghc/c"), "g", "unique", 1);
        writes(words("hfgc/c"), "f", "unique", 1);
        writes(words("acab/a/b/c"), "ab", "unique", 1);
        writes(words("abac/a/b/c"), "ab", "unique", 1);
        writes(words("ba/b"), "a", "unique", 1);
        writes(words("aab/ab/b"), "aa", "unique", 1);

        says("words: the set, at least one word");
        writes(words("a"), "a", "unique", 1);
        writes(words("a/b/c/d/e/f"), "a", "unique", 1);
        writes(words("a/b/c/d/e/f"), "f", "unique", 32);
        writes(words("ha/hb/hc/hd/he/hf"), "h", "unique", 63);

        says("Returns its length");
        writes(words(A60.substring(31) + "/" + A60.substring(29)), A60.substring(30), "unique", 2);
        writes(words("b/" + A60.substring(1)), "a", "unique", 2);

        says("NO_SUCH if the set contains a word that does not exist, or is negative");
        for (int words : new int[] {8, 9, 15, 16, 64, 256, 65536, 1 << 30, MAX, -1, -8, MIN, MIN + 1, MIN + 7}) {
            refuses(three.say("stays"), NO_SUCH, "unique", words);
        }
        refuses(NEW, NO_SUCH, "unique", 1);
        refuses(NEW, NO_SUCH, "unique", -1);
        refuses(three.go(5), NO_SUCH, "unique", 2);
        for (int words : outside(0, 63)) refuses(SIX_WORDS, NO_SUCH, "unique", words);

        says("BAD_VALUE if it is empty");
        refuses(NEW.say("stays"), BAD_VALUE, "unique", 0);
        refuses(three.say("stays"), BAD_VALUE, "unique", 0);
        refuses(SIX_WORDS, BAD_VALUE, "unique", 0);

        says("NONE if there is none (the pad stays then).");
        refuses(three.say("stays"), NONE, "unique", 5);
        refuses(three.say("/?"), NONE, "unique", 6);
        refuses(EMPTY_WORD.say("stays"), NONE, "unique", 1);
        refuses(SIX_WORDS.say(A60), NONE, "unique", 63);
        refuses(words("a/a").say("stays"), NONE, "unique", 1);
        refuses(words("a/a").say("stays"), NONE, "unique", 2);
        refuses(words("a//a").say("stays"), NONE, "unique", 7);
    }

    private static void absent() {
        chapter("Promise 27: absent");
        says("Finds a shortest sequence of letters that is no factor, and writes it to the pad in place of what it had; of several, the least one lexicographically.");
        writes(words("aab/bb"), "ba", "absent", 2);
        writes(words("aabba/ab").say("/?"), "aaa", "absent", 2);
        writes(words("aaababbbaa").say(A60), "aaaa", "absent", 2);
        writes(words("b"), "a", "absent", 2);
        writes(words("b").say("hhh").then("before"), "a", "absent", 2);
        writes(words("a/b"), "aa", "absent", 2);

        says("letters: how many letters there are: the first ones, from a on; 1 to 8");
        Calls seven = words("abcdefg");
        for (int letters = 1; letters < 8; letters++) writes(seven, "aa", "absent", letters);
        writes(seven, "h", "absent", 8);
        writes(words("abcdefgh"), "aa", "absent", 8);
        writes(words("bcdefgh"), "a", "absent", 1);
        for (int letters = 1; letters <= 8; letters++) {
            writes(NEW, "a", "absent", letters);
            writes(SIX_WORDS, "a", "absent", letters);
        }

        says("Returns its length");
        writes(words(A60.substring(1)), A60, "absent", 1);
        writes(words("b" + A60.substring(1)), A60, "absent", 1);
        writes(words(A60.substring(30) + "/" + A60.substring(30)), A60.substring(29), "absent", 1);

        says("BAD_VALUE if letters is out of range");
        for (int letters : outside(1, 8)) {
            refuses(seven.say("stays"), BAD_VALUE, "absent", letters);
            refuses(NEW, BAD_VALUE, "absent", letters);
            refuses(SIXTY_LETTERS, BAD_VALUE, "absent", letters);
        }

        says("TOO_MANY if it would have more than 60 letters.");
        refuses(SIXTY_LETTERS.say("stays"), TOO_MANY, "absent", 1);
        refuses(words("/////" + A60).say("/?"), TOO_MANY, "absent", 1);
        writes(SIXTY_LETTERS, "b", "absent", 2);
        writes(SIXTY_LETTERS.go(60), A60, "absent", 1);
        writes(SIXTY_IN_SIX, A60.substring(49), "absent", 1);
    }

    private static void minimal() {
        chapter("Promise 28: minimal");
        says("Counts the minimal absent sequences: those with at least two letters that are no factors, but both the sequence without its first letter and that without its last letter are (with letters from a to h).");
        answers(words("a"), 1, "minimal");
        answers(words("h"), 1, "minimal");
        answers(words("ab"), 3, "minimal");
        answers(words("a/b"), 4, "minimal");
        answers(words("abab/bab"), 3, "minimal");
        answers(words("abcdefgh"), 57, "minimal");
        answers(words("a/b/c/d/e/fgh"), 62, "minimal");

        says("Returns their number.");
        answers(NEW, 0, "minimal");
        answers(EMPTY_WORD, 0, "minimal");
        answers(SIX_WORDS, 0, "minimal");
        answers(SIXTY_LETTERS, 1, "minimal");
        // 11 times a, 11 times b, ab and ba.
        answers(SIXTY_IN_SIX, 4, "minimal");
        // 60 times b, and whatever has a behind a letter.
        answers(MOST_CLASSES, 3, "minimal");
    }

    private static void countIs(Calls story, int... want) {
        for (int what = 0; what < want.length; what++) answers(story, want[what], "count", what);
    }

    private static void count() {
        chapter("Promise 29: count");
        says("Returns a number.");
        countIs(SMALL, 9, 10, 2, 7, 7, 7, 3);

        says("what: 0 for the present version, 1 for the number of versions, 2 for the number of words, 3 for the number of letters of all words, 4 for the number of classes, 5 for the number of steps of all classes and of the empty sequence, 6 for the length of a longest factor with at least two ends (0 if there is none)");
        countIs(NEW, 0, 1, 0, 0, 0, 0, 0);
        countIs(EMPTY_WORD, 1, 2, 1, 0, 0, 0, 0);
        countIs(SIX_WORDS, 6, 7, 6, 0, 0, 0, 0);
        countIs(SMALL.go(0), 0, 10, 0, 0, 0, 0, 0);
        countIs(SMALL.go(3), 3, 10, 1, 2, 2, 3, 0);
        countIs(words("abcdefgh"), 9, 10, 1, 8, 8, 15, 0);
        countIs(words("a/a"), 4, 5, 2, 2, 1, 1, 1);
        countIs(SIXTY_LETTERS, 61, 62, 1, 60, 60, 60, 59);
        countIs(words(A60.substring(30) + "/" + A60.substring(30)), 62, 63, 2, 60, 30, 30, 30);
        countIs(MOST_CLASSES, 61, 62, 1, 60, 118, 119, 58);
        countIs(FULL.go(399), 399, 400, 1, 38, 38, 38, 37);
        countIs(FULL, 1, 400, 1, 0, 0, 0, 0);

        says("Returns the number");
        answers(SIXTY_IN_SIX, 60, "count", 3);

        says("BAD_VALUE if what is not 0 to 6.");
        for (int what : outside(0, 6)) {
            refuses(SMALL, BAD_VALUE, "count", what);
            refuses(NEW, BAD_VALUE, "count", what);
        }
    }
}
