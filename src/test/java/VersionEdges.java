/** The boundary cases of words and versions: promises 1 to 10. */
final class VersionEdges extends Edges {
    /** Versions 1 to 4 are abc; 5 and 6 go on from 2 with ha; 7 begins a word behind 5; 8 begins one behind 0. */
    private static final Calls TREE = words("abc").go(2).grow("ha").go(5).begin().go(0).begin();

    static void run() {
        newObject();
        begin();
        append();
        load();
        loadRefused();
        loadLimits();
        go();
        back();
        version();
        versionRefused();
        meet();
        more();
        letter();
    }

    private static void newObject() {
        chapter("Promise 1: A new object");
        says("Creates an index with version 0 only.");
        answers(NEW, 0, "count", 0);
        answers(NEW, 1, "count", 1);
        for (int what = 2; what < 7; what++) answers(NEW, 0, "count", what);
        answers(NEW, 0, "go", 0);
        refuses(NEW, NO_SUCH, "go", 1);
        refuses(NEW, NONE, "version", 0, 0);
        for (int what = 1; what < 6; what++) answers(NEW, 0, "version", 0, what);
        refuses(NEW, NO_SUCH, "letter", 0, -1);
        answers(NEW, 0, "pad", -1);
        refuses(NEW, NONE, "pad", 0);
    }

    private static void begin() {
        chapter("Promise 2: begin");
        says("Begins a new word without letters.");
        moves(NEW, 1, "begin");
        answers(NEW.begin(), 1, "count", 2);
        answers(NEW.begin(), 0, "letter", 0, -1);
        answers(words("ab").begin(), 0, "letter", 1, -1);
        answers(words("ab").begin(), 2, "letter", 0, -1);
        answers(SIXTY_LETTERS.begin(), 0, "letter", 1, -1);
        answers(words("//").begin(), 4, "count", 2);

        says("Returns the number of the version");
        moves(words("ab"), 4, "begin");
        moves(words("ab").go(1), 4, "begin");
        moves(words("ab").go(0), 4, "begin");
        moves(SIXTY_LETTERS, 62, "begin");

        says("TOO_MANY if there are 6 words, or 400 versions.");
        moves(words("////"), 6, "begin");
        refuses(SIX_WORDS, TOO_MANY, "begin");
        refuses(SIXTY_IN_SIX, TOO_MANY, "begin");
        moves(SIX_WORDS.go(5), 7, "begin");
        moves(SIX_WORDS.go(0), 7, "begin");
        moves(Calls.versions(399), 399, "begin");
        moves(Calls.versions(399).go(0), 399, "begin");
        refuses(FULL, TOO_MANY, "begin");
        refuses(FULL.go(0), TOO_MANY, "begin");
        refuses(FULL.go(399), TOO_MANY, "begin");
        refuses(Calls.versions(395).grow("/////"), TOO_MANY, "begin");
    }

    private static void append() {
        chapter("Promise 3: append");
        says("Appends a letter to the last word.");
        answers(words("ab/").grow("d"), 1, "letter", 1, -1);
        answers(words("ab/").grow("d"), 3, "letter", 1, 0);
        answers(words("ab/").grow("d"), 2, "letter", 0, -1);
        answers(SIX_WORDS.grow("h"), 1, "letter", 5, -1);
        answers(SIX_WORDS.grow("h"), 0, "letter", 4, -1);

        says("letter: 0 to 7");
        for (int letter = 0; letter <= 7; letter++) {
            moves(EMPTY_WORD, 2, "append", letter);
            answers(EMPTY_WORD.then("append", letter), letter, "letter", 0, 0);
        }

        says("Returns the number of the version");
        moves(words("abc").go(2), 5, "append", 1);
        moves(words("abc").go(1), 5, "append", 0);

        says("BAD_VALUE if letter is out of range");
        for (int letter : outside(0, 7)) {
            refuses(words("ab"), BAD_VALUE, "append", letter);
            refuses(NEW, BAD_VALUE, "append", letter);
            refuses(SIXTY_LETTERS, BAD_VALUE, "append", letter);
        }
        refuses(FULL, BAD_VALUE, "append", 8);
        refuses(FULL.go(0), BAD_VALUE, "append", -1);

        says("NOT_POSSIBLE if there is no word");
        for (int letter = 0; letter <= 7; letter++) refuses(NEW, NOT_POSSIBLE, "append", letter);
        refuses(words("ab").go(0), NOT_POSSIBLE, "append", 0);
        refuses(FULL.go(0), NOT_POSSIBLE, "append", 7);

        says("TOO_MANY if all words together have 60 letters, or there are 400 versions.");
        moves(words(A60.substring(1)), 61, "append", 7);
        refuses(SIXTY_LETTERS, TOO_MANY, "append", 0);
        refuses(SIXTY_IN_SIX, TOO_MANY, "append", 7);
        refuses(SIXTY_LETTERS.begin(), TOO_MANY, "append", 0);
        moves(SIXTY_LETTERS.go(60), 62, "append", 1);
        moves(words("/////" + A60.substring(1)), 66, "append", 0);
        moves(Calls.versions(399), 399, "append", 7);
        refuses(FULL, TOO_MANY, "append", 0);
        refuses(FULL.go(61), TOO_MANY, "append", 0);
    }

    private static void load() {
        chapter("Promise 4: load");
        says("Adds the letters of the pad as words, and empties it, if this succeeds");
        moves(words("a").say("b/c"), 5, "load");
        answers(words("a").say("b/c").then("load"), 0, "pad", -1);
        refuses(words("a").say("b/c").then("load"), NONE, "pad", 0);
        moves(EMPTY_WORD.say(A60), 61, "load");
        answers(EMPTY_WORD.say(A60).then("load"), 0, "wipe");
        refuses(words("a").say("b/?"), BAD_TEXT, "load");

        says("(an empty pad adds nothing, and the present version stays)");
        moves(NEW, 0, "load");
        moves(words("ab"), 3, "load");
        moves(words("ab").go(2), 2, "load");
        moves(SIX_WORDS, 6, "load");
        moves(SIXTY_LETTERS, 61, "load");
        moves(FULL, 1, "load");
        moves(FULL.go(0), 0, "load");
        moves(FULL.go(399), 399, "load");
        moves(words("ab").say("a").then("wipe"), 3, "load");

        says("the letters before the first \"/\" are appended to the last word, each \"/\" begins a new word, and the letters behind it are appended to this.");
        Calls loaded = words("a/b").say("cd/e//").then("load");
        int[] lengths = {1, 3, 1, 0, 0};
        for (int word = 0; word < 5; word++) answers(loaded, lengths[word], "letter", word, -1);
        answers(loaded, 5, "count", 2);
        answers(loaded, 1, "letter", 1, 0);
        answers(loaded, 2, "letter", 1, 1);
        answers(loaded, 3, "letter", 1, 2);
        answers(loaded, 4, "letter", 2, 0);
        answers(words("a").say("/").then("load"), 2, "count", 2);
        answers(words("a").say("hh").then("load"), 3, "letter", 0, -1);
        answers(NEW.say("/h").then("load"), 7, "letter", 0, 0);

        says("Each letter and each \"/\" makes a version, as append() and begin() do.");
        answers(loaded, 11, "count", 1);
        int[] wordsThen = {2, 2, 2, 3, 3, 4, 5};
        int[] lettersThen = {2, 3, 4, 4, 5, 5, 5};
        for (int version = 4; version <= 10; version++) {
            answers(loaded, version - 1, "version", version, 0);
            answers(loaded, wordsThen[version - 4], "version", version, 2);
            answers(loaded, lettersThen[version - 4], "version", version, 3);
            moves(loaded, 10, "go", version);
        }
        answers(words("ab").go(2).say("c/").then("load"), 2, "version", 4, 0);

        says("Returns the number of the version");
        moves(NEW.say("/"), 1, "load");
        moves(NEW.say("/" + A60.substring(1)), 60, "load");
        moves(words("ab").go(1).say("c"), 4, "load");
    }

    private static void loadRefused() {
        says("BAD_TEXT if the pad is not correct as words");
        String[] wrongTexts = {"i", "`", ".", "0", "A", "H", "!", "~", "ab?", "/a/i", "?ab", A60.substring(1) + "i", A60.substring(1) + "."};
        for (String text : wrongTexts) {
            refuses(words("ab").say(text), BAD_TEXT, "load");
            refuses(NEW.say(text), BAD_TEXT, "load");
            refuses(SIXTY_LETTERS.say(text), BAD_TEXT, "load");
            refuses(SIX_WORDS.say(text), BAD_TEXT, "load");
        }
        refuses(SIX_WORDS.say("//?"), BAD_TEXT, "load");
        refuses(FULL.say("a?"), BAD_TEXT, "load");
        refuses(FULL.go(0).say("a?"), BAD_TEXT, "load");
        refuses(NEW.say("a//////?"), BAD_TEXT, "load");

        says("NOT_POSSIBLE if there is no word and the pad begins with a letter");
        refuses(NEW.say("a"), NOT_POSSIBLE, "load");
        refuses(NEW.say("h/a"), NOT_POSSIBLE, "load");
        refuses(words("ab").go(0).say("a"), NOT_POSSIBLE, "load");
        moves(NEW.say("/a"), 2, "load");
        moves(EMPTY_WORD.say("a"), 2, "load");
        refuses(NEW.say("a//////"), NOT_POSSIBLE, "load");
        moves(NEW.say("/").then("load").say("a//"), 4, "load");
        refuses(NEW.say("a///////"), NOT_POSSIBLE, "load");
        refuses(NEW.say(A60), NOT_POSSIBLE, "load");
        refuses(FULL.go(0).say("a"), NOT_POSSIBLE, "load");
    }

    private static void loadLimits() {
        says("TOO_MANY if there would be more than 6 words, more than 60 letters, or more than 400 versions.");
        moves(NEW.say("//////"), 6, "load");
        refuses(NEW.say("///////"), TOO_MANY, "load");
        moves(words("////").say("a/a"), 8, "load");
        refuses(words("////").say("a/a/"), TOO_MANY, "load");
        refuses(SIX_WORDS.say("/"), TOO_MANY, "load");
        moves(SIX_WORDS.say("a"), 7, "load");
        moves(SIX_WORDS.go(5).say("/"), 7, "load");
        moves(EMPTY_WORD.say(A60), 61, "load");
        refuses(words("b").say(A60), TOO_MANY, "load");
        moves(words("b").say(A60.substring(1)), 61, "load");
        moves(words("abc").say(A60.substring(3)), 61, "load");
        refuses(words("abc").say(A60.substring(2)), TOO_MANY, "load");
        refuses(words("abc").say("/" + A60.substring(2)), TOO_MANY, "load");
        moves(words("abc").say("/" + A60.substring(3) + "/"), 63, "load");
        refuses(SIXTY_LETTERS.say("h"), TOO_MANY, "load");
        refuses(SIXTY_IN_SIX.say("h"), TOO_MANY, "load");
        refuses(SIXTY_LETTERS.say("/h"), TOO_MANY, "load");
        moves(SIXTY_LETTERS.say("/////"), 66, "load");
        moves(Calls.versions(397).say("a/b"), 399, "load");
        refuses(Calls.versions(397).say("a/bc"), TOO_MANY, "load");
        moves(Calls.versions(399).say("h"), 399, "load");
        moves(Calls.versions(399).go(0).say("/"), 399, "load");
        refuses(Calls.versions(399).say("/h"), TOO_MANY, "load");
        refuses(FULL.say("h"), TOO_MANY, "load");
        refuses(FULL.say("/"), TOO_MANY, "load");
        refuses(FULL.go(0).say("/"), TOO_MANY, "load");
        moves(Calls.versions(340).say(A60), 399, "load");
        refuses(Calls.versions(341).say(A60), TOO_MANY, "load");
    }

    private static void go() {
        chapter("Promise 5: go");
        says("Goes to a version.");
        for (int version = 0; version <= 8; version++) moves(TREE, 8, "go", version);
        moves(TREE.go(3), 3, "go", 3);
        answers(TREE.go(6), 6, "count", 0);
        answers(TREE.go(6), 7, "letter", 0, 1);
        answers(TREE.go(4), 1, "letter", 0, 1);
        answers(TREE.go(0), 0, "count", 2);
        answers(TREE.go(0), 9, "count", 1);

        says("version: the version");
        moves(FULL, 1, "go", 0);
        moves(FULL, 1, "go", 399);
        moves(FULL.go(399), 399, "go", 399);

        says("Returns the version that was the present one");
        moves(NEW, 0, "go", 0);
        moves(TREE.go(2), 2, "go", 7);
        moves(TREE.go(2).then("back", 1), 1, "go", 4);
        moves(TREE.go(2).grow("b"), 9, "go", 2);

        says("NO_SUCH if there is no such version.");
        for (int version : outside(0, 8)) refuses(TREE, NO_SUCH, "go", version);
        for (int version : outside(0, 0)) refuses(NEW, NO_SUCH, "go", version);
        for (int version : outside(0, 399)) refuses(FULL, NO_SUCH, "go", version);
        refuses(TREE.go(3), NO_SUCH, "go", 9);
    }

    private static void back() {
        chapter("Promise 6: back");
        says("Goes back to an ancestor of the present version.");
        moves(TREE.go(6), 5, "back", 1);
        moves(TREE.go(6), 2, "back", 2);
        moves(TREE.go(7), 5, "back", 1);
        moves(TREE, 0, "back", 1);

        says("steps: 0 to 400: 1 for the parent, 2 for its parent, and so on");
        moves(TREE.go(6), 6, "back", 0);
        moves(NEW, 0, "back", 0);
        moves(TREE.go(6), 1, "back", 3);
        refuses(TREE.go(6), NONE, "back", 400);
        refuses(NEW, NONE, "back", 400);

        says("Returns the number of the version to which it has gone");
        moves(TREE.go(6), 0, "back", 4);
        moves(words(A60 + "/////"), 0, "back", 66);
        moves(words(A60 + "/////"), 1, "back", 65);
        moves(FULL.go(399), 1, "back", 38);

        says("BAD_VALUE if steps is out of range");
        for (int steps : outside(0, 400)) {
            refuses(TREE.go(6), BAD_VALUE, "back", steps);
            refuses(NEW, BAD_VALUE, "back", steps);
        }
        refuses(FULL.go(399), BAD_VALUE, "back", 401);

        says("NONE if there is no such ancestor.");
        refuses(NEW, NONE, "back", 1);
        refuses(TREE.go(6), NONE, "back", 5);
        refuses(TREE, NONE, "back", 2);
        refuses(words(A60 + "/////"), NONE, "back", 67);
        refuses(FULL.go(399), NONE, "back", 40);
        refuses(FULL.go(399), NONE, "back", 400);
    }

    private static void version() {
        chapter("Promise 7: version");
        says("Returns a number about a version.");
        answers(TREE.go(4), 5, "version", 6, 0);
        answers(TREE.go(0), 5, "version", 6, 0);

        says("version: the version");
        answers(NEW, 0, "version", 0, 1);
        answers(TREE, 0, "version", 8, 0);
        answers(TREE, 3, "version", 4, 0);
        answers(FULL, 1, "version", 399, 2);
        answers(FULL, 38, "version", 399, 3);
        answers(FULL, 39, "version", 399, 4);
        answers(FULL, 38, "version", 399, 5);

        says("what: 0 for its parent (NONE for version 0), 1 for the number of its children, 2 for the number of its words, 3 for the number of its letters, 4 for its depth (the number of steps from version 0 to it), 5 for the number of its distinct factors");
        refuses(NEW, NONE, "version", 0, 0);
        refuses(TREE, NONE, "version", 0, 0);
        int[][] about = {
            {NONE, 0, 1, 2, 3, 2, 5, 5, 0}, {2, 1, 2, 1, 0, 2, 0, 0, 0}, {0, 1, 1, 1, 1, 1, 1, 2, 1},
            {0, 0, 1, 2, 3, 2, 3, 2, 0}, {0, 1, 2, 3, 4, 3, 4, 4, 1}, {0, 0, 1, 3, 6, 3, 5, 3, 0}};
        for (int what = 0; what < 6; what++) {
            for (int version = 0; version <= 8; version++) answers(TREE, about[what][version], "version", version, what);
        }
        answers(FULL, 7, "version", 1, 1);
        answers(SIX_WORDS, 6, "version", 6, 2);
        answers(SIX_WORDS, 0, "version", 6, 5);
        answers(SIXTY_LETTERS, 60, "version", 61, 3);
        answers(SIXTY_LETTERS, 60, "version", 61, 5);
        answers(words(A60 + "/////"), 66, "version", 66, 4);
        answers(SIXTY_IN_SIX, 20, "version", 66, 5);
    }

    private static void versionRefused() {
        says("Returns the number");
        answers(words("ab"), 3, "version", 3, 5);

        says("NO_SUCH if there is no such version");
        for (int what = 0; what < 6; what++) {
            for (int version : outside(0, 8)) refuses(TREE, NO_SUCH, "version", version, what);
            refuses(NEW, NO_SUCH, "version", 1, what);
        }
        refuses(FULL, NO_SUCH, "version", 400, 0);
        refuses(TREE, NO_SUCH, "version", 9, 6);
        refuses(TREE, NO_SUCH, "version", -1, -1);
        refuses(NEW, NO_SUCH, "version", 1, 6);

        says("BAD_VALUE if what is not 0 to 5.");
        for (int what : outside(0, 5)) {
            refuses(TREE, BAD_VALUE, "version", 6, what);
            refuses(NEW, BAD_VALUE, "version", 0, what);
        }
    }

    private static void meet() {
        chapter("Promise 8: meet");
        says("Returns the latest version that is an ancestor of two versions, or one of them itself.");
        int[][] met = {{4, 6, 2}, {6, 4, 2}, {6, 7, 5}, {7, 6, 5}, {5, 7, 5}, {7, 5, 5}, {3, 3, 3}, {1, 6, 1}, {3, 4, 3}};
        for (int[] row : met) answers(TREE.go(4), row[2], "meet", row[0], row[1]);

        says("one: a version");
        answers(TREE, 0, "meet", 0, 6);
        answers(TREE, 0, "meet", 8, 6);

        says("other: a version");
        answers(TREE, 0, "meet", 6, 0);
        answers(TREE, 0, "meet", 6, 8);

        says("Returns the version");
        answers(NEW, 0, "meet", 0, 0);
        answers(TREE, 8, "meet", 8, 8);
        answers(FULL, 399, "meet", 399, 399);
        answers(FULL, 1, "meet", 399, 361);
        answers(FULL, 361, "meet", 361, 361);

        says("NO_SUCH if there is no such version.");
        for (int version : outside(0, 8)) {
            refuses(TREE, NO_SUCH, "meet", version, 0);
            refuses(TREE, NO_SUCH, "meet", 8, version);
            refuses(TREE, NO_SUCH, "meet", version, version);
        }
        refuses(NEW, NO_SUCH, "meet", 0, 1);
        refuses(FULL, NO_SUCH, "meet", 400, 399);
        refuses(FULL, NO_SUCH, "meet", 399, 400);
    }

    private static void more() {
        chapter("Promise 9: more");
        says("Counts the distinct factors of a version that are no factors of another one.");
        int[][] rows = {{4, 6, 5}, {6, 4, 4}, {4, 3, 3}, {3, 4, 0}, {6, 7, 2}, {7, 6, 0}};
        for (int[] row : rows) answers(TREE.go(0), row[2], "more", row[0], row[1]);

        says("one: a version");
        answers(TREE, 0, "more", 0, 4);
        answers(TREE, 0, "more", 1, 4);
        answers(TREE, 0, "more", 8, 4);

        says("other: a version");
        answers(TREE, 6, "more", 4, 0);
        answers(TREE, 6, "more", 4, 1);
        answers(TREE, 6, "more", 4, 8);

        says("Returns the number");
        answers(NEW, 0, "more", 0, 0);
        answers(TREE, 0, "more", 4, 4);
        answers(FULL, 60, "more", 61, 0);
        answers(FULL, 22, "more", 61, 399);
        answers(FULL, 0, "more", 399, 61);

        says("NO_SUCH if there is no such version.");
        for (int version : outside(0, 8)) {
            refuses(TREE, NO_SUCH, "more", version, 0);
            refuses(TREE, NO_SUCH, "more", 8, version);
            refuses(TREE, NO_SUCH, "more", version, version);
        }
        refuses(NEW, NO_SUCH, "more", 0, 1);
        refuses(FULL, NO_SUCH, "more", 400, 399);
        refuses(FULL, NO_SUCH, "more", 399, 400);
    }

    private static void letter() {
        Calls story = words("abh//c");
        chapter("Promise 10: letter");
        says("Returns a letter of a word.");
        answers(story, 0, "letter", 0, 0);
        answers(story, 2, "letter", 2, 0);
        answers(story.go(3), 1, "letter", 0, 1);

        says("word: the word");
        answers(SIXTY_IN_SIX, 0, "letter", 0, 9);
        answers(SIXTY_IN_SIX, 1, "letter", 5, 0);
        answers(SIX_WORDS, 0, "letter", 5, -1);

        says("index: the index of the letter, or -1 for the length of the word");
        answers(story, 3, "letter", 0, -1);
        answers(story, 0, "letter", 1, -1);
        answers(story, 1, "letter", 2, -1);
        answers(SIXTY_LETTERS, 60, "letter", 0, -1);
        answers(SIXTY_LETTERS, 0, "letter", 0, 59);

        says("Returns the letter, 0 to 7, or the length");
        answers(story, 7, "letter", 0, 2);
        for (int i = 0; i < 8; i++) answers(words("abcdefgh"), i, "letter", 0, i);

        says("NO_SUCH if there is no such word");
        for (int word : outside(0, 2)) {
            refuses(story, NO_SUCH, "letter", word, 0);
            refuses(story, NO_SUCH, "letter", word, -1);
            refuses(story, NO_SUCH, "letter", word, -2);
            refuses(story, NO_SUCH, "letter", word, 60);
        }
        refuses(NEW, NO_SUCH, "letter", 0, 0);
        refuses(story.go(0), NO_SUCH, "letter", 0, 0);
        refuses(story.go(4), NO_SUCH, "letter", 1, 0);
        refuses(SIX_WORDS, NO_SUCH, "letter", 6, -1);

        says("NONE if there is no such index (also below -1).");
        for (int index : outside(-1, 2)) refuses(story, NONE, "letter", 0, index);
        for (int index : outside(-1, -1)) refuses(story, NONE, "letter", 1, index);
        for (int index : outside(-1, 0)) refuses(story, NONE, "letter", 2, index);
        for (int index : outside(-1, 59)) refuses(SIXTY_LETTERS, NONE, "letter", 0, index);
        refuses(story.go(3), NONE, "letter", 0, 2);
    }
}
