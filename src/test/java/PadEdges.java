/** The boundary cases of the pad and of the pattern on it: promises 11 to 18. */
final class PadEdges extends Edges {
    /** Classes: 0 a, 1 aa, 2 aaa, 3 b, 4 ba. */
    private static final Calls SMALL = words("aaa/ba//a");

    static void run() {
        say();
        wipe();
        pad();
        fault();
        occurs();
        occursRefused();
        end();
        matches();
        parts();
    }

    private static Calls saying(String text) {
        return NEW.say(text);
    }

    private static void say() {
        chapter("Promise 11: say");
        says("Appends a character to the pad.");
        moves(saying("ab"), 3, "say", '?');
        answers(saying("ab?"), 'a', "pad", 0);
        answers(saying("ab?"), '?', "pad", 2);
        moves(words("ab").then("spell", 1), 3, "say", 'a');

        says("character: its code, 33 to 126");
        for (int code = 33; code <= 126; code++) {
            moves(NEW, 1, "say", code);
            answers(NEW.then("say", code), code, "pad", 0);
        }

        says("Returns the length of the pad then");
        moves(NEW, 1, "say", 'a');
        moves(saying(A60.substring(1)), 60, "say", 'h');

        says("BAD_VALUE if the code is out of range");
        for (int code : outside(33, 126)) {
            refuses(NEW, BAD_VALUE, "say", code);
            refuses(saying("ab"), BAD_VALUE, "say", code);
            refuses(saying(A60), BAD_VALUE, "say", code);
        }
        int[] more = {0, -1, 10, 97 + 128, 97 + 256, 97 + 65536, 97 - 65536, -97};
        for (int code : more) refuses(saying("ab"), BAD_VALUE, "say", code);

        says("TOO_MANY if the pad has 60 characters.");
        refuses(saying(A60), TOO_MANY, "say", 'a');
        refuses(saying("!" + A60.substring(2) + "~"), TOO_MANY, "say", 33);
        refuses(saying(A60), TOO_MANY, "say", 126);
        refuses(SIXTY_LETTERS.then("spell", 59), TOO_MANY, "say", 'a');
        moves(SIXTY_LETTERS.then("spell", 58), 60, "say", 'a');
        moves(saying(A60).then("wipe"), 1, "say", 'a');
    }

    private static void wipe() {
        chapter("Promise 12: wipe");
        says("Empties the pad.");
        answers(saying("ab").then("wipe"), 0, "pad", -1);
        refuses(saying("ab").then("wipe"), NONE, "pad", 0);
        answers(saying(A60).then("wipe").say("b"), 1, "pad", -1);
        answers(saying(A60).then("wipe").say("b"), 'b', "pad", 0);
        refuses(saying(A60).then("wipe").say("b"), NONE, "pad", 1);

        says("Returns the length that it had.");
        moves(NEW, 0, "wipe");
        moves(saying("?"), 1, "wipe");
        moves(saying(A60), 60, "wipe");
        moves(saying(A60).then("wipe"), 0, "wipe");
        moves(words("a").say("/b").then("load"), 0, "wipe");
    }

    private static void pad() {
        chapter("Promise 13: pad");
        says("Returns a character of the pad.");
        answers(saying("h/~"), '/', "pad", 1);

        says("index: its index, or -1 for the length of the pad");
        answers(saying("h/~"), 'h', "pad", 0);
        answers(saying("h/~"), '~', "pad", 2);
        answers(saying("h/~"), 3, "pad", -1);
        answers(NEW, 0, "pad", -1);
        answers(saying(A60), 60, "pad", -1);
        answers(saying(A60.substring(1) + "!"), '!', "pad", 59);

        says("Returns the code, or the length");
        answers(saying("!"), 33, "pad", 0);
        answers(saying("~"), 126, "pad", 0);

        says("NONE if there is no such index (also below -1).");
        for (int index : outside(-1, 2)) refuses(saying("h/~"), NONE, "pad", index);
        for (int index : outside(-1, -1)) refuses(NEW, NONE, "pad", index);
        for (int index : outside(-1, 59)) refuses(saying(A60), NONE, "pad", index);
        refuses(saying(A60).then("wipe").say("ab"), NONE, "pad", 2);
        refuses(words("ab").say(A60).then("kth", 1, 1), NONE, "pad", 2);
    }

    private static void fault() {
        chapter("Promise 14: fault");
        says("Returns the fault of the pad.");
        answers(saying("ab/?!"), 2, "fault", 0);
        answers(saying("ab/?!"), 3, "fault", 1);

        says("how: 0 as a pattern, 1 as words");
        answers(saying("/"), 0, "fault", 0);
        refuses(saying("/"), NONE, "fault", 1);

        says("Returns the fault, or NONE if it is correct");
        answers(NEW, 0, "fault", 0);
        refuses(NEW, NONE, "fault", 1);
        for (int code = 33; code <= 126; code++) {
            boolean letter = code >= 'a' && code <= 'h';
            Calls story = saying("a").then("say", code);
            answers(story, letter ? NONE : 1, "fault", 0);
            answers(story, letter || code == '/' ? NONE : 1, "fault", 1);
        }
        for (int how = 0; how < 2; how++) {
            refuses(saying("abcdefgh"), NONE, "fault", how);
            refuses(saying(A60), NONE, "fault", how);
            answers(saying(A60.substring(1) + "i"), 59, "fault", how);
            answers(saying("i"), 0, "fault", how);
            answers(saying("aIi"), 1, "fault", how);
        }
        answers(saying(A60.substring(1) + "/"), 59, "fault", 0);
        refuses(saying(A60.substring(1) + "/"), NONE, "fault", 1);
        refuses(saying("/".repeat(60)), NONE, "fault", 1);
        answers(saying("a?").then("wipe"), 0, "fault", 0);

        says("BAD_VALUE if how is neither 0 nor 1.");
        for (int how : outside(0, 1)) {
            refuses(NEW, BAD_VALUE, "fault", how);
            refuses(saying("ab"), BAD_VALUE, "fault", how);
            refuses(saying("a?"), BAD_VALUE, "fault", how);
        }
    }

    private static void occurs() {
        chapter("Promise 15: occurs");
        says("Returns a number about the ends of the pattern.");
        answers(SMALL.go(3).say("aa"), 1, "occurs", 0);
        answers(SMALL.go(2).say("aa"), 0, "occurs", 0);

        says("what: 0 for their number, 1 for the set of the words in which it occurs, 2 for the class to which it belongs (NONE if it is no factor), 3 for the greatest number of occurrences that do not overlap, in all words together");
        occursIs(SMALL.say("a"), 5, 11, 0, 5);
        occursIs(SMALL.say("aa"), 2, 1, 1, 1);
        occursIs(SMALL.say("aaa"), 1, 1, 2, 1);
        occursIs(SMALL.say("ba"), 1, 2, 4, 1);
        occursIs(SMALL.say("ab"), 0, 0, NONE, 0);
        occursIs(SMALL.say("aaaa"), 0, 0, NONE, 0);
        occursIs(SMALL.say("h"), 0, 0, NONE, 0);
        occursIs(NEW.say("a"), 0, 0, NONE, 0);
        occursIs(EMPTY_WORD.say("a"), 0, 0, NONE, 0);
        occursIs(SIX_WORDS.say("a"), 0, 0, NONE, 0);
        occursIs(words("a/b").say("ab"), 0, 0, NONE, 0);
        occursIs(words("a/a").say("aa"), 0, 0, NONE, 0);
        occursIs(words("/////b").say("b"), 1, 32, 0, 1);
        occursIs(words("b/b/b/b/b/b").say("b"), 6, 63, 0, 6);
        occursIs(words("cab/ab").say("ab"), 2, 3, 3, 2);
        occursIs(words("cab/ab").say("b"), 2, 3, 3, 2);
        occursIs(words("ababa/aba").say("aba"), 3, 3, 2, 2);
        occursIs(SIXTY_LETTERS.say("a"), 60, 1, 0, 60);
        occursIs(SIXTY_LETTERS.say("aa"), 59, 1, 1, 30);
        occursIs(SIXTY_LETTERS.say(A60.substring(30)), 31, 1, 29, 2);
        occursIs(SIXTY_LETTERS.say(A60.substring(29)), 30, 1, 30, 1);
        occursIs(SIXTY_LETTERS.say(A60), 1, 1, 59, 1);
        occursIs(words(A60.substring(1)).say(A60), 0, 0, NONE, 0);
        occursIs(SIXTY_IN_SIX.say("aaa"), 24, 21, 2, 9);
    }

    private static void occursIs(Calls story, int... want) {
        for (int what = 0; what < 4; what++) answers(story, want[what], "occurs", what);
    }

    private static void occursRefused() {
        says("Returns the number");
        answers(SMALL.say("b"), 1, "occurs", 0);

        says("BAD_VALUE if what is not 0 to 3");
        for (int what : outside(0, 3)) {
            refuses(SMALL.say("a"), BAD_VALUE, "occurs", what);
            refuses(SMALL, BAD_VALUE, "occurs", what);
            refuses(SMALL.say("a/"), BAD_VALUE, "occurs", what);
            refuses(NEW, BAD_VALUE, "occurs", what);
        }

        says("BAD_TEXT if the pattern is not correct.");
        for (String text : NO_PATTERNS) {
            for (int what = 0; what < 4; what++) {
                refuses(SMALL.say(text), BAD_TEXT, "occurs", what);
                refuses(NEW.say(text), BAD_TEXT, "occurs", what);
            }
        }
    }

    private static void end() {
        chapter("Promise 16: end");
        says("Returns an end of the pattern.");
        answers(words("aba").say("ba"), 2, "end", 0);

        says("k: index among its ends, lowest words first, then lowest ends");
        int[] ends = {0, 1, 2, 101, 300};
        for (int k = 0; k < ends.length; k++) answers(SMALL.say("a"), ends[k], "end", k);

        says("Returns 100 times the word plus the end");
        answers(SIXTY_LETTERS.say("a"), 59, "end", 59);
        answers(SIXTY_LETTERS.say(A60), 59, "end", 0);
        answers(words("/////" + A60).say("a"), 500, "end", 0);
        answers(words("/////" + A60).say("a"), 559, "end", 59);
        answers(SIXTY_IN_SIX.say("b"), 509, "end", 29);

        says("BAD_TEXT if the pattern is not correct");
        for (String text : NO_PATTERNS) {
            refuses(SMALL.say(text), BAD_TEXT, "end", 0);
            refuses(SMALL.say(text), BAD_TEXT, "end", -1);
            refuses(SMALL.say(text), BAD_TEXT, "end", MAX);
            refuses(NEW.say(text), BAD_TEXT, "end", 0);
        }

        says("NONE if there are not so many (also for k below 0).");
        for (int k : outside(0, 4)) refuses(SMALL.say("a"), NONE, "end", k);
        for (int k : outside(0, 0)) refuses(SMALL.say("b"), NONE, "end", k);
        for (int k : outside(0, 59)) refuses(SIXTY_LETTERS.say("a"), NONE, "end", k);
        for (int k = -1; k < 2; k++) {
            refuses(SMALL.say("c"), NONE, "end", k);
            refuses(NEW.say("a"), NONE, "end", k);
            refuses(EMPTY_WORD.say("a"), NONE, "end", k);
        }
    }

    private static void matches() {
        chapter("Promise 17: matches");
        says("Returns how far the pattern matches: the length of the longest end of its first characters that is a factor.");
        Calls story = words("abc/cab").say("abcabdca");
        int[] want = {1, 2, 3, 2, 3, 0, 1, 2};
        for (int i = 0; i < want.length; i++) answers(story, want[i], "matches", i + 1);
        answers(words("a/b").say("ab"), 1, "matches", 2);
        answers(words("aa/a").say("aaa"), 2, "matches", 3);

        says("characters: how many first characters, 1 to the length of the pattern");
        answers(words("b").say("ab"), 0, "matches", 1);
        answers(words("b").say("ab"), 1, "matches", 2);
        answers(SIXTY_LETTERS.say(A60), 1, "matches", 1);
        answers(SIXTY_LETTERS.say(A60), 60, "matches", 60);
        answers(SIXTY_IN_SIX.say(A60), 10, "matches", 60);

        says("Returns the length, 0 if there is none");
        answers(NEW.say("a"), 0, "matches", 1);
        answers(EMPTY_WORD.say(A60), 0, "matches", 60);
        answers(words("abc").say("h"), 0, "matches", 1);
        answers(words("abc").say("abch"), 0, "matches", 4);

        says("BAD_TEXT if the pattern is not correct");
        for (String text : NO_PATTERNS) {
            for (int characters : new int[] {0, 1, text.length(), text.length() + 1, MIN, MAX}) {
                refuses(SMALL.say(text), BAD_TEXT, "matches", characters);
            }
            refuses(NEW.say(text), BAD_TEXT, "matches", 1);
        }

        says("BAD_VALUE if characters is out of range.");
        for (int characters : outside(1, 8)) refuses(story, BAD_VALUE, "matches", characters);
        for (int characters : outside(1, 1)) refuses(NEW.say("a"), BAD_VALUE, "matches", characters);
        for (int characters : outside(1, 60)) refuses(SIXTY_LETTERS.say(A60), BAD_VALUE, "matches", characters);
    }

    private static void parts() {
        chapter("Promise 18: parts");
        says("Finds the least number of factors of which the pattern is made up, one after the other.");
        answers(words("abc/cab").say("abcabc"), 2, "parts");
        answers(words("abc/cab").say("cabca"), 2, "parts");
        answers(words("a/b").say("ab"), 2, "parts");
        answers(words("ab/bcd").say("abcd"), 2, "parts");

        says("Returns the number");
        answers(words("abc").say("b"), 1, "parts");
        answers(words("a").say(A60), 60, "parts");
        answers(SIXTY_LETTERS.say(A60), 1, "parts");
        answers(words(A60.substring(1)).say(A60), 2, "parts");
        answers(SIXTY_IN_SIX.say(A60), 6, "parts");

        says("BAD_TEXT if the pattern is not correct");
        for (String text : NO_PATTERNS) {
            refuses(SMALL.say(text), BAD_TEXT, "parts");
            refuses(NEW.say(text), BAD_TEXT, "parts");
            if (text.length() < 60) refuses(SMALL.say("h" + text + "?"), BAD_TEXT, "parts");
        }

        says("NONE if a letter of it does not occur in any word.");
        refuses(SMALL.say("c"), NONE, "parts");
        refuses(SMALL.say("aac"), NONE, "parts");
        refuses(SMALL.say("caa"), NONE, "parts");
        refuses(SMALL.say("aca"), NONE, "parts");
        refuses(SIXTY_LETTERS.say(A60.substring(1) + "b"), NONE, "parts");
        refuses(NEW.say("a"), NONE, "parts");
        refuses(SIX_WORDS.say("a"), NONE, "parts");
    }
}
