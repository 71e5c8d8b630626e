/** For each promise of the document: ordinary inputs, its edges, wrong inputs and the order of the errors. */
public final class PromisesTest {
    private static final int NO_SUCH = -1, BAD_VALUE = -2, BAD_TEXT = -3, TOO_MANY = -4, NOT_POSSIBLE = -5, NONE = -6;
    private static final int MIN = Integer.MIN_VALUE, MAX = Integer.MAX_VALUE;

    private static int wrong = 0;
    private static int checks = 0;
    private static int promise = 0;

    public static void main(String[] args) {
        p01NewObject();
        p02Begin();
        p03Append();
        p04Load();
        p04LoadLimits();
        p05Go();
        p06Back();
        p07Version();
        p08Meet();
        p09More();
        p10Letter();
        p11Say();
        p12Wipe();
        p13Pad();
        p14Fault();
        p15Occurs();
        p16End();
        p17Matches();
        p18Parts();
        p19Factors();
        p20Kth();
        p21Before();
        p22Group();
        p23Spell();
        p24Step();
        p25Common();
        p26Unique();
        p27Absent();
        p28Minimal();
        p29Count();
        System.out.println(checks + " checks, " + wrong + " wrong");
        if (wrong != 0) System.exit(1);
    }

    private static void due(String what, int got, int want) {
        checks++;
        if (got != want) {
            wrong++;
            System.out.println("promise " + promise + ": " + what + " answered " + got + ", due is " + want);
        }
    }

    /** An object whose words are those of a text with "/" between them. */
    private static FactorBranches with(String words) {
        FactorBranches x = new FactorBranches();
        x.begin();
        grow(x, words);
        return x;
    }

    private static void grow(FactorBranches x, String words) {
        for (char c : words.toCharArray()) {
            int answer = c == '/' ? x.begin() : x.append(c - 'a');
            if (answer < 0) throw new IllegalStateException("could not grow by " + words);
        }
    }

    private static FactorBranches saying(FactorBranches x, String text) {
        x.wipe();
        for (char c : text.toCharArray()) x.say(c);
        return x;
    }

    private static void padIs(FactorBranches x, String text) {
        due("pad(-1) for \"" + text + "\"", x.pad(-1), text.length());
        for (int i = 0; i < text.length(); i++) due("pad(" + i + ") for \"" + text + "\"", x.pad(i), text.charAt(i));
    }

    private static String many(String part, int times) {
        return part.repeat(times);
    }

    /** An object with exactly so many versions, at version 1, the word without letters; by few calls, for an object has only 512. */
    private static FactorBranches withVersions(int versions) {
        FactorBranches x = saying(with(""), many("a", 60));
        x.load();
        for (int made = 62; made < versions; made += 60) {
            x.go(61);
            x.spell(Math.min(60, versions - made) - 1);
            x.go(1);
            x.load();
        }
        if (x.count(1) != versions) throw new IllegalStateException("could not make " + versions + " versions");
        x.go(1);
        return x;
    }

    private static void p01NewObject() {
        promise = 1;
        FactorBranches x = new FactorBranches();
        due("count(0)", x.count(0), 0);
        due("count(1)", x.count(1), 1);
        due("count(2)", x.count(2), 0);
        due("count(3)", x.count(3), 0);
        due("count(4)", x.count(4), 0);
        due("count(5)", x.count(5), 0);
        due("count(6)", x.count(6), 0);
        due("pad(-1)", x.pad(-1), 0);
        due("version(0, 2)", x.version(0, 2), 0);
        due("go(0)", x.go(0), 0);
        due("go(1)", x.go(1), NO_SUCH);
        new FactorBranches().begin();
        due("count(1) beside another object", x.count(1), 1);
    }

    private static void p02Begin() {
        promise = 2;
        FactorBranches x = new FactorBranches();
        for (int word = 1; word <= 6; word++) {
            due("begin()", x.begin(), word);
            due("count(2)", x.count(2), word);
            due("letter(word, -1)", x.letter(word - 1, -1), 0);
        }
        due("begin() with 6 words", x.begin(), TOO_MANY);
        due("count(0)", x.count(0), 6);
        due("count(1)", x.count(1), 7);
        x.go(5);
        due("begin() in another branch", x.begin(), 7);
        due("version(7, 0)", x.version(7, 0), 5);
        FactorBranches full = withVersions(399);
        due("begin() as the last version", full.begin(), 399);
        due("begin() with 400 versions", full.begin(), TOO_MANY);
        due("count(0)", full.count(0), 399);
        due("count(1)", full.count(1), 400);
    }

    private static void p03Append() {
        promise = 3;
        FactorBranches x = new FactorBranches();
        due("append(0) without a word", x.append(0), NOT_POSSIBLE);
        due("append(8) without a word", x.append(8), BAD_VALUE);
        due("append(-1)", x.append(-1), BAD_VALUE);
        due("append(MIN)", x.append(MIN), BAD_VALUE);
        due("append(MAX)", x.append(MAX), BAD_VALUE);
        x.begin();
        due("append(7)", x.append(7), 2);
        due("letter(0, 0)", x.letter(0, 0), 7);
        x.begin();
        due("append(3) to the second word", x.append(3), 4);
        due("letter(1, 0)", x.letter(1, 0), 3);
        due("letter(0, -1)", x.letter(0, -1), 1);
        for (int i = 2; i < 60; i++) due("append(1)", x.append(1), i + 3);
        due("append(1) with 60 letters", x.append(1), TOO_MANY);
        due("append(8) with 60 letters", x.append(8), BAD_VALUE);
        due("count(0)", x.count(0), 62);
        due("begin() with 60 letters", x.begin(), 63);
        due("append(0) to a new word, with 60 letters", x.append(0), TOO_MANY);
        FactorBranches full = withVersions(399);
        due("append(2) as the last version", full.append(2), 399);
        due("append(2) with 400 versions", full.append(2), TOO_MANY);
        full.go(0);
        due("append(2) without a word, with 400 versions", full.append(2), NOT_POSSIBLE);
    }

    private static void p04Load() {
        promise = 4;
        FactorBranches x = new FactorBranches();
        due("load() of nothing", x.load(), 0);
        saying(x, "ab");
        due("load() without a word", x.load(), NOT_POSSIBLE);
        padIs(x, "ab");
        saying(x, "aXb");
        due("load() of a wrong text without a word", x.load(), BAD_TEXT);
        padIs(x, "aXb");
        saying(x, "/ab/c");
        due("load()", x.load(), 5);
        due("pad(-1)", x.pad(-1), 0);
        due("count(0)", x.count(0), 5);
        due("count(2)", x.count(2), 2);
        due("letter(0, 1)", x.letter(0, 1), 1);
        due("letter(1, 0)", x.letter(1, 0), 2);
        due("version(5, 0)", x.version(5, 0), 4);
        due("version(3, 2)", x.version(3, 2), 1);
        due("version(4, 2)", x.version(4, 2), 2);
        saying(x, "h//");
        due("load() behind the last word", x.load(), 8);
        due("letter(1, 1)", x.letter(1, 1), 7);
        due("count(2)", x.count(2), 4);
        due("load() of nothing", x.load(), 8);
        due("count(1)", x.count(1), 9);
        saying(x, "i");
        due("load() of i", x.load(), BAD_TEXT);
        saying(x, "A");
        due("load() of A", x.load(), BAD_TEXT);
    }

    private static void p04LoadLimits() {
        FactorBranches x = with("a/b/c/d/e");
        int versions = x.count(1);
        saying(x, "a//");
        due("load() of 7 words", x.load(), TOO_MANY);
        due("count(1)", x.count(1), versions);
        due("count(3)", x.count(3), 5);
        padIs(x, "a//");
        saying(x, "a/");
        due("load() of 6 words", x.load(), versions + 1);
        FactorBranches y = with("abc");
        saying(y, many("a", 58));
        due("load() of 61 letters", y.load(), TOO_MANY);
        due("count(0)", y.count(0), 4);
        saying(y, many("a", 57));
        due("load() of 60 letters", y.load(), 61);
        saying(y, "//");
        due("load() of words alone with 60 letters", y.load(), 63);
        FactorBranches full = withVersions(397);
        saying(full, "abcd");
        due("load() of 401 versions", full.load(), TOO_MANY);
        due("count(0)", full.count(0), 1);
        saying(full, "abc");
        due("load() of 400 versions", full.load(), 399);
        due("load() of nothing with 400 versions", full.load(), 399);
        saying(full, "a");
        due("load() with 400 versions", full.load(), TOO_MANY);
        full.go(0);
        due("load() without a word, with 400 versions", full.load(), NOT_POSSIBLE);
        saying(full, "?");
        due("load() of a wrong text with 400 versions", full.load(), BAD_TEXT);
    }

    private static void p05Go() {
        promise = 5;
        FactorBranches x = with("abc");
        due("go(2)", x.go(2), 4);
        due("count(0)", x.count(0), 2);
        due("count(3)", x.count(3), 1);
        due("factors(1, 0)", x.factors(1, 0), 1);
        due("go(2) again", x.go(2), 2);
        due("go(5)", x.go(5), NO_SUCH);
        due("go(-1)", x.go(-1), NO_SUCH);
        due("go(MIN)", x.go(MIN), NO_SUCH);
        due("go(MAX)", x.go(MAX), NO_SUCH);
        due("count(0)", x.count(0), 2);
        due("append(7)", x.append(7), 5);
        due("letter(0, 1)", x.letter(0, 1), 7);
        due("go(4)", x.go(4), 5);
        due("letter(0, 1)", x.letter(0, 1), 1);
        due("letter(0, 2)", x.letter(0, 2), 2);
        due("go(0)", x.go(0), 4);
        due("letter(0, -1)", x.letter(0, -1), NO_SUCH);
    }

    private static void p06Back() {
        promise = 6;
        FactorBranches x = with("abc");
        due("back(0)", x.back(0), 4);
        due("back(1)", x.back(1), 3);
        due("count(3)", x.count(3), 2);
        due("append(0)", x.append(0), 5);
        due("back(2)", x.back(2), 2);
        due("back(3)", x.back(3), NONE);
        due("count(0)", x.count(0), 2);
        due("back(400)", x.back(400), NONE);
        due("back(401)", x.back(401), BAD_VALUE);
        due("back(-1)", x.back(-1), BAD_VALUE);
        due("back(MIN)", x.back(MIN), BAD_VALUE);
        due("back(MAX)", x.back(MAX), BAD_VALUE);
        due("back(2) to version 0", x.back(2), 0);
        due("back(1) from version 0", x.back(1), NONE);
        due("back(0) at version 0", x.back(0), 0);
        FactorBranches deep = with(many("a", 60) + "/////");
        due("back(66)", deep.back(66), 0);
    }

    private static void p07Version() {
        promise = 7;
        FactorBranches x = with("ab/ba");
        x.go(2);
        x.append(0);
        x.go(2);
        x.begin();
        due("version(0, 0)", x.version(0, 0), NONE);
        due("version(7, 0)", x.version(7, 0), 2);
        due("version(4, 0)", x.version(4, 0), 3);
        due("version(2, 1)", x.version(2, 1), 3);
        due("version(0, 1)", x.version(0, 1), 1);
        due("version(6, 1)", x.version(6, 1), 0);
        due("version(0, 2)", x.version(0, 2), 0);
        due("version(6, 2)", x.version(6, 2), 2);
        due("version(6, 3)", x.version(6, 3), 4);
        due("version(8, 3)", x.version(8, 3), 1);
        due("version(6, 4)", x.version(6, 4), 6);
        due("version(8, 4)", x.version(8, 4), 3);
        due("version(0, 4)", x.version(0, 4), 0);
        due("version(6, 5)", x.version(6, 5), 4);
        due("version(7, 5)", x.version(7, 5), 2);
        due("version(0, 5)", x.version(0, 5), 0);
        due("version(6, 6)", x.version(6, 6), BAD_VALUE);
        due("version(6, -1)", x.version(6, -1), BAD_VALUE);
        due("version(9, 6)", x.version(9, 6), NO_SUCH);
        due("version(-1, 0)", x.version(-1, 0), NO_SUCH);
        due("version(MAX, MAX)", x.version(MAX, MAX), NO_SUCH);
        due("version(0, MIN)", x.version(0, MIN), BAD_VALUE);
        due("count(0)", x.count(0), 8);
        FactorBranches full = with(many("a", 60));
        due("version(61, 5) of one letter", full.version(61, 5), 60);
    }

    private static void p08Meet() {
        promise = 8;
        FactorBranches x = with("abc");
        x.go(2);
        grow(x, "de");
        x.go(5);
        grow(x, "f");
        due("meet(4, 6)", x.meet(4, 6), 2);
        due("meet(6, 4)", x.meet(6, 4), 2);
        due("meet(6, 7)", x.meet(6, 7), 5);
        due("meet(7, 5)", x.meet(7, 5), 5);
        due("meet(3, 3)", x.meet(3, 3), 3);
        due("meet(0, 7)", x.meet(0, 7), 0);
        due("meet(1, 4)", x.meet(1, 4), 1);
        x.go(0);
        due("begin()", x.begin(), 8);
        due("meet(8, 7)", x.meet(8, 7), 0);
        due("meet(8, 9)", x.meet(8, 9), NO_SUCH);
        due("meet(9, 8)", x.meet(9, 8), NO_SUCH);
        due("meet(-1, 0)", x.meet(-1, 0), NO_SUCH);
        due("meet(0, MIN)", x.meet(0, MIN), NO_SUCH);
        due("count(0)", x.count(0), 8);
    }

    private static void p09More() {
        promise = 9;
        FactorBranches x = with("aba");
        x.go(1);
        grow(x, "ba/ac");
        due("more(4, 9)", x.more(4, 9), 2);
        due("more(9, 4)", x.more(9, 4), 2);
        due("more(4, 4)", x.more(4, 4), 0);
        due("more(4, 0)", x.more(4, 0), 5);
        due("more(0, 4)", x.more(0, 4), 0);
        due("more(4, 3)", x.more(4, 3), 2);
        due("more(3, 4)", x.more(3, 4), 0);
        due("more(10, 0)", x.more(10, 0), NO_SUCH);
        due("more(0, 10)", x.more(0, 10), NO_SUCH);
        due("more(-1, -1)", x.more(-1, -1), NO_SUCH);
        due("more(MAX, 0)", x.more(MAX, 0), NO_SUCH);
        FactorBranches full = with(many("a", 60));
        due("more(61, 30)", full.more(61, 30), 31);
        due("more(30, 61)", full.more(30, 61), 0);
    }

    private static void p10Letter() {
        promise = 10;
        FactorBranches x = with("abh//c");
        due("letter(0, 0)", x.letter(0, 0), 0);
        due("letter(0, 2)", x.letter(0, 2), 7);
        due("letter(0, 3)", x.letter(0, 3), NONE);
        due("letter(0, -1)", x.letter(0, -1), 3);
        due("letter(0, -2)", x.letter(0, -2), NONE);
        due("letter(1, -1)", x.letter(1, -1), 0);
        due("letter(1, 0)", x.letter(1, 0), NONE);
        due("letter(2, 0)", x.letter(2, 0), 2);
        due("letter(2, 1)", x.letter(2, 1), NONE);
        due("letter(2, -1)", x.letter(2, -1), 1);
        due("letter(3, 0)", x.letter(3, 0), NO_SUCH);
        due("letter(3, -2)", x.letter(3, -2), NO_SUCH);
        due("letter(-1, 0)", x.letter(-1, 0), NO_SUCH);
        due("letter(0, MIN)", x.letter(0, MIN), NONE);
        due("letter(0, MAX)", x.letter(0, MAX), NONE);
        due("letter(MAX, 0)", x.letter(MAX, 0), NO_SUCH);
        FactorBranches full = with(many("h", 60));
        due("letter(0, 59)", full.letter(0, 59), 7);
        due("letter(0, 60)", full.letter(0, 60), NONE);
    }

    private static void p11Say() {
        promise = 11;
        FactorBranches x = new FactorBranches();
        due("say(33)", x.say(33), 1);
        due("say(126)", x.say(126), 2);
        due("say(32)", x.say(32), BAD_VALUE);
        due("say(127)", x.say(127), BAD_VALUE);
        due("say(-97)", x.say(-97), BAD_VALUE);
        due("say(MIN)", x.say(MIN), BAD_VALUE);
        due("say(MAX)", x.say(MAX), BAD_VALUE);
        padIs(x, "!~");
        for (int length = 3; length <= 60; length++) due("say(97)", x.say(97), length);
        due("say(97) to a full pad", x.say(97), TOO_MANY);
        due("say(32) to a full pad", x.say(32), BAD_VALUE);
        due("pad(-1)", x.pad(-1), 60);
        due("pad(59)", x.pad(59), 97);
    }

    private static void p12Wipe() {
        promise = 12;
        FactorBranches x = new FactorBranches();
        due("wipe()", x.wipe(), 0);
        saying(x, "a?/");
        due("wipe()", x.wipe(), 3);
        due("pad(-1)", x.pad(-1), 0);
        due("pad(0)", x.pad(0), NONE);
        due("wipe()", x.wipe(), 0);
        saying(x, many("z", 60));
        due("wipe()", x.wipe(), 60);
        due("say(98)", x.say(98), 1);
        padIs(x, "b");
    }

    private static void p13Pad() {
        promise = 13;
        FactorBranches x = saying(new FactorBranches(), "h/~");
        due("pad(-1)", x.pad(-1), 3);
        due("pad(0)", x.pad(0), 104);
        due("pad(1)", x.pad(1), 47);
        due("pad(2)", x.pad(2), 126);
        due("pad(3)", x.pad(3), NONE);
        due("pad(-2)", x.pad(-2), NONE);
        due("pad(MIN)", x.pad(MIN), NONE);
        due("pad(MAX)", x.pad(MAX), NONE);
        saying(x, "a");
        due("pad(1) behind a shorter text", x.pad(1), NONE);
    }

    private static void p14Fault() {
        promise = 14;
        FactorBranches x = new FactorBranches();
        due("fault(0) of nothing", x.fault(0), 0);
        due("fault(1) of nothing", x.fault(1), NONE);
        due("fault(2)", x.fault(2), BAD_VALUE);
        due("fault(-1)", x.fault(-1), BAD_VALUE);
        due("fault(MAX)", x.fault(MAX), BAD_VALUE);
        saying(x, "abcdefgh");
        due("fault(0) of letters", x.fault(0), NONE);
        due("fault(1) of letters", x.fault(1), NONE);
        saying(x, "ab/i/");
        due("fault(0)", x.fault(0), 2);
        due("fault(1)", x.fault(1), 3);
        saying(x, "/");
        due("fault(0) of /", x.fault(0), 0);
        due("fault(1) of /", x.fault(1), NONE);
        saying(x, "a`");
        due("fault(0) of the sign before a", x.fault(0), 1);
        saying(x, "aaH");
        due("fault(1) of a capital letter", x.fault(1), 2);
        saying(x, many("a", 59) + "0");
        due("fault(0) at the end", x.fault(0), 59);
        padIs(x, many("a", 59) + "0");
    }

    private static void p15Occurs() {
        promise = 15;
        FactorBranches x = saying(with("aabaa/baa//aaaa"), "aa");
        due("occurs(0)", x.occurs(0), 6);
        due("occurs(1)", x.occurs(1), 11);
        due("occurs(2)", x.occurs(2), 1);
        due("occurs(3)", x.occurs(3), 5);
        saying(x, "baa");
        due("occurs(0) of baa", x.occurs(0), 2);
        due("occurs(1) of baa", x.occurs(1), 3);
        due("class of baa spells", x.spell(x.occurs(2)), 3);
        saying(x, "aab");
        due("occurs(0) of aab", x.occurs(0), 1);
        due("occurs(3) of aab", x.occurs(3), 1);
        saying(x, "ab/");
        due("occurs(0) of words", x.occurs(0), BAD_TEXT);
        due("occurs(4) of words", x.occurs(4), BAD_VALUE);
        due("occurs(-1)", x.occurs(-1), BAD_VALUE);
        due("occurs(MIN)", x.occurs(MIN), BAD_VALUE);
        saying(x, "ac");
        due("occurs(0) of no factor", x.occurs(0), 0);
        due("occurs(1) of no factor", x.occurs(1), 0);
        due("occurs(2) of no factor", x.occurs(2), NONE);
        due("occurs(3) of no factor", x.occurs(3), 0);
        saying(x, "aba/");
        x.wipe();
        due("occurs(0) of nothing", x.occurs(0), BAD_TEXT);
        saying(x, "ab");
        due("no factor goes over the end of a word", saying(with("a/b"), "ab").occurs(0), 0);
        FactorBranches y = saying(with("aba/aba"), "aba");
        due("occurs(3) in two words", y.occurs(3), 2);
        due("occurs(3) of abababa", saying(with("abababa"), "aba").occurs(3), 2);
        due("occurs(0) longer than the words", saying(with("aa"), "aaa").occurs(0), 0);
        due("occurs(0) in version 0", saying(new FactorBranches(), "a").occurs(0), 0);
        due("occurs(2) in version 0", saying(new FactorBranches(), "a").occurs(2), NONE);
    }

    private static void p16End() {
        promise = 16;
        FactorBranches x = saying(with("aabaa/baa//aaaa"), "aa");
        due("end(0)", x.end(0), 1);
        due("end(1)", x.end(1), 4);
        due("end(2)", x.end(2), 102);
        due("end(3)", x.end(3), 301);
        due("end(5)", x.end(5), 303);
        due("end(6)", x.end(6), NONE);
        due("end(-1)", x.end(-1), NONE);
        due("end(MIN)", x.end(MIN), NONE);
        due("end(MAX)", x.end(MAX), NONE);
        saying(x, "c");
        due("end(0) of no factor", x.end(0), NONE);
        saying(x, "?");
        due("end(0) of a wrong pattern", x.end(0), BAD_TEXT);
        due("end(-1) of a wrong pattern", x.end(-1), BAD_TEXT);
        x.wipe();
        due("end(0) of nothing", x.end(0), BAD_TEXT);
        due("end(59)", saying(with(many("a", 60)), "a").end(59), 59);
        due("end(0) in the sixth word", saying(with("/////b"), "b").end(0), 500);
    }

    private static void p17Matches() {
        promise = 17;
        FactorBranches x = saying(with("abc/cab"), "abcabdca");
        due("matches(1)", x.matches(1), 1);
        due("matches(2)", x.matches(2), 2);
        due("matches(3)", x.matches(3), 3);
        due("matches(4)", x.matches(4), 2);
        due("matches(5)", x.matches(5), 3);
        due("matches(6)", x.matches(6), 0);
        due("matches(7)", x.matches(7), 1);
        due("matches(8)", x.matches(8), 2);
        due("matches(9)", x.matches(9), BAD_VALUE);
        due("matches(0)", x.matches(0), BAD_VALUE);
        due("matches(MIN)", x.matches(MIN), BAD_VALUE);
        due("matches(MAX)", x.matches(MAX), BAD_VALUE);
        saying(x, "ab ?");
        due("matches(1) of a wrong pattern", x.matches(1), BAD_TEXT);
        due("matches(0) of a wrong pattern", x.matches(0), BAD_TEXT);
        due("matches(1) in version 0", saying(new FactorBranches(), "a").matches(1), 0);
        due("matches(60)", saying(with(many("a", 60)), many("a", 60)).matches(60), 60);
        due("matches(60) of shorter words", saying(with(many("a", 25) + "/" + many("a", 30)), many("a", 60)).matches(60), 30);
    }

    private static void p18Parts() {
        promise = 18;
        FactorBranches x = saying(with("abc/cab"), "abcabc");
        due("parts() of abc abc", x.parts(), 2);
        saying(x, "cabca");
        due("parts() of cab ca", x.parts(), 2);
        saying(x, "abc");
        due("parts() of abc", x.parts(), 1);
        saying(x, "aaa");
        due("parts() of a a a", x.parts(), 3);
        saying(x, "abcd");
        due("parts() with d", x.parts(), NONE);
        saying(x, "dabc");
        due("parts() with d first", x.parts(), NONE);
        saying(x, "ab/");
        due("parts() of a wrong pattern", x.parts(), BAD_TEXT);
        x.wipe();
        due("parts() of nothing", x.parts(), BAD_TEXT);
        due("parts() in version 0", saying(new FactorBranches(), "a").parts(), NONE);
        due("parts() of 60", saying(with("a"), many("a", 60)).parts(), 60);
    }

    private static void p19Factors() {
        promise = 19;
        FactorBranches x = with("abab/bab");
        due("factors(1, 0)", x.factors(1, 0), 7);
        due("factors(2, 0)", x.factors(2, 0), 5);
        due("factors(3, 0)", x.factors(3, 0), 3);
        due("factors(4, 0)", x.factors(4, 0), 1);
        due("factors(5, 0)", x.factors(5, 0), 0);
        due("factors(1, 1)", x.factors(1, 1), 2);
        due("factors(1, 3)", x.factors(1, 3), 2);
        due("factors(2, 3)", x.factors(2, 3), 1);
        due("factors(1, 4)", x.factors(1, 4), 1);
        due("factors(1, 5)", x.factors(1, 5), 0);
        due("factors(60, 60)", x.factors(60, 60), 0);
        due("factors(0, 0)", x.factors(0, 0), BAD_VALUE);
        due("factors(61, 0)", x.factors(61, 0), BAD_VALUE);
        due("factors(1, -1)", x.factors(1, -1), BAD_VALUE);
        due("factors(1, 61)", x.factors(1, 61), BAD_VALUE);
        due("factors(MIN, MAX)", x.factors(MIN, MAX), BAD_VALUE);
        FactorBranches full = with(many("a", 60));
        due("factors(60, 0)", full.factors(60, 0), 1);
        due("factors(31, 0)", full.factors(31, 0), 30);
        due("factors(1, 60)", full.factors(1, 60), 1);
        due("factors(1, 0) in version 0", new FactorBranches().factors(1, 0), 0);
    }

    private static void p20Kth() {
        promise = 20;
        FactorBranches x = with("abab/bab");
        String[] all = {"a", "ab", "aba", "abab", "b", "ba", "bab"};
        for (int k = 0; k < all.length; k++) {
            due("kth(1, " + k + ")", x.kth(1, k), all[k].length());
            padIs(x, all[k]);
        }
        String[] twice = {"a", "ab", "b", "ba", "bab"};
        for (int k = 0; k < twice.length; k++) {
            due("kth(2, " + k + ")", x.kth(2, k), twice[k].length());
            padIs(x, twice[k]);
        }
        saying(x, "stays?");
        due("kth(1, 7)", x.kth(1, 7), NONE);
        due("kth(2, 5)", x.kth(2, 5), NONE);
        due("kth(1, -1)", x.kth(1, -1), NONE);
        due("kth(1, MIN)", x.kth(1, MIN), NONE);
        due("kth(1, MAX)", x.kth(1, MAX), NONE);
        due("kth(0, 0)", x.kth(0, 0), BAD_VALUE);
        due("kth(61, 0)", x.kth(61, 0), BAD_VALUE);
        due("kth(0, -1)", x.kth(0, -1), BAD_VALUE);
        padIs(x, "stays?");
        FactorBranches full = with(many("a", 60));
        due("kth(1, 59)", full.kth(1, 59), 60);
        padIs(full, many("a", 60));
        due("kth(60, 0)", full.kth(60, 0), 1);
        due("kth(60, 1)", full.kth(60, 1), NONE);
        due("kth(1, 0) in version 0", new FactorBranches().kth(1, 0), NONE);
    }

    private static void p21Before() {
        promise = 21;
        FactorBranches x = with("abab/bab");
        String[] patterns = {"a", "aa", "ab", "ababa", "ac", "b", "baa", "bab", "baba", "c", "hhhh", "aba"};
        int[] before = {0, 1, 1, 4, 4, 4, 6, 6, 7, 7, 7, 2};
        for (int i = 0; i < patterns.length; i++) due("before() of " + patterns[i], saying(x, patterns[i]).before(), before[i]);
        padIs(x, "aba");
        saying(x, "a/");
        due("before() of a wrong pattern", x.before(), BAD_TEXT);
        x.wipe();
        due("before() of nothing", x.before(), BAD_TEXT);
        due("before() in version 0", saying(new FactorBranches(), "h").before(), 0);
        due("before() of 60", saying(with(many("a", 60)), many("a", 60)).before(), 59);
        due("before() of b behind 60", saying(with(many("a", 60)), "b").before(), 60);
    }

    private static void groupIs(FactorBranches x, int index, int... want) {
        for (int what = 0; what < want.length; what++) {
            due("group(" + index + ", " + what + ")", x.group(index, what), want[what]);
        }
    }

    private static void p22Group() {
        promise = 22;
        FactorBranches x = with("abcbc/abc");
        // c has the ends of bc; cb, bcb and abcb have one end, and so have cbc, bcbc and abcbc
        groupIs(x, 0, 1, 1, 2, NONE, 2, 3, 0);
        groupIs(x, 1, 1, 1, 3, NONE, 4, 3, 1);
        groupIs(x, 2, 2, 2, 2, 1, 4, 3, 1);
        groupIs(x, 3, 2, 1, 3, NONE, 2, 3, 2);
        groupIs(x, 4, 3, 3, 2, 3, 2, 3, 2);
        groupIs(x, 5, 4, 2, 1, 1, 4, 1, 3);
        groupIs(x, 6, 5, 3, 1, 3, 0, 1, 4);
        due("count(4)", x.count(4), 7);
        due("group(7, 0)", x.group(7, 0), NO_SUCH);
        due("group(7, 7)", x.group(7, 7), NO_SUCH);
        due("group(-1, 0)", x.group(-1, 0), NO_SUCH);
        due("group(MIN, 0)", x.group(MIN, 0), NO_SUCH);
        due("group(MAX, 0)", x.group(MAX, 0), NO_SUCH);
        due("group(0, 7)", x.group(0, 7), BAD_VALUE);
        due("group(0, -1)", x.group(0, -1), BAD_VALUE);
        due("group(0, MAX)", x.group(0, MAX), BAD_VALUE);
        FactorBranches y = with("//ah");
        groupIs(y, 0, 1, 1, 1, NONE, 128, 4, 200);
        groupIs(y, 1, 2, 1, 1, NONE, 0, 4, 201);
        FactorBranches full = with(many("a", 60));
        groupIs(full, 59, 60, 60, 1, 58, 0, 1, 59);
    }

    private static void p23Spell() {
        promise = 23;
        FactorBranches x = with("abcbc/abc");
        String[] longest = {"a", "b", "ab", "bc", "abc", "abcb", "abcbc"};
        for (int i = 0; i < longest.length; i++) {
            due("spell(" + i + ")", x.spell(i), longest[i].length());
            padIs(x, longest[i]);
        }
        saying(x, "stays");
        due("spell(7)", x.spell(7), NO_SUCH);
        due("spell(-1)", x.spell(-1), NO_SUCH);
        due("spell(MIN)", x.spell(MIN), NO_SUCH);
        due("spell(MAX)", x.spell(MAX), NO_SUCH);
        padIs(x, "stays");
        FactorBranches full = with(many("a", 60));
        due("spell(59)", full.spell(59), 60);
        padIs(full, many("a", 60));
        due("spell(0) in version 0", new FactorBranches().spell(0), NO_SUCH);
    }

    private static void p24Step() {
        promise = 24;
        FactorBranches x = with("abcbc/abc");
        due("step(-1, 0)", x.step(-1, 0), 0);
        due("step(-1, 1)", x.step(-1, 1), 1);
        due("step(-1, 2)", x.step(-1, 2), 3);
        due("step(-1, 3)", x.step(-1, 3), NONE);
        due("step(0, 1)", x.step(0, 1), 2);
        due("step(0, 0)", x.step(0, 0), NONE);
        due("step(1, 2)", x.step(1, 2), 3);
        due("step(2, 2)", x.step(2, 2), 4);
        due("step(3, 1)", x.step(3, 1), 5);
        due("step(4, 1)", x.step(4, 1), 5);
        due("step(5, 2)", x.step(5, 2), 6);
        due("step(6, 0)", x.step(6, 0), NONE);
        due("step(7, 0)", x.step(7, 0), NO_SUCH);
        due("step(7, 8)", x.step(7, 8), NO_SUCH);
        due("step(-2, 0)", x.step(-2, 0), NO_SUCH);
        due("step(MIN, 0)", x.step(MIN, 0), NO_SUCH);
        due("step(MAX, 0)", x.step(MAX, 0), NO_SUCH);
        due("step(0, 8)", x.step(0, 8), BAD_VALUE);
        due("step(-1, -1)", x.step(-1, -1), BAD_VALUE);
        due("step(-1, MAX)", x.step(-1, MAX), BAD_VALUE);
        due("no step over the end of a word", with("a/b").step(0, 1), NONE);
        due("step(-1, 0) in version 0", new FactorBranches().step(-1, 0), NONE);
    }

    private static void p25Common() {
        promise = 25;
        FactorBranches x = with("abcd/bcda/cdab/dabd");
        due("common(3, 2)", x.common(3, 2), 3);
        padIs(x, "bcd");
        due("common(15, 4)", x.common(15, 4), 1);
        padIs(x, "a");
        due("common(15, 3)", x.common(15, 3), 2);
        padIs(x, "ab");
        due("common(15, 2)", x.common(15, 2), 3);
        padIs(x, "bcd");
        due("common(12, 2)", x.common(12, 2), 3);
        padIs(x, "dab");
        due("common(2, 1)", x.common(2, 1), 4);
        padIs(x, "bcda");
        due("common(15, 1)", x.common(15, 1), 4);
        padIs(x, "abcd");
        saying(x, "stays");
        due("common(0, 1)", x.common(0, 1), NONE);
        due("common(3, 3)", x.common(3, 3), NONE);
        due("common(15, 6)", x.common(15, 6), NONE);
        due("common(16, 1)", x.common(16, 1), NO_SUCH);
        due("common(16, 7)", x.common(16, 7), NO_SUCH);
        due("common(-1, 1)", x.common(-1, 1), NO_SUCH);
        due("common(MIN, 0)", x.common(MIN, 0), NO_SUCH);
        due("common(MAX, 1)", x.common(MAX, 1), NO_SUCH);
        due("common(1, 0)", x.common(1, 0), BAD_VALUE);
        due("common(1, 7)", x.common(1, 7), BAD_VALUE);
        padIs(x, "stays");
        FactorBranches six = with("ab/ba/ab/ba/ab/ba");
        due("common(63, 6)", six.common(63, 6), 1);
        padIs(six, "a");
        due("common(63, 3)", six.common(63, 3), 2);
        padIs(six, "ab");
        due("common(64, 1)", six.common(64, 1), NO_SUCH);
        due("common(1, 1) of an empty word", with("").common(1, 1), NONE);
    }

    private static void p26Unique() {
        promise = 26;
        FactorBranches x = with("abba/bab/acca");
        due("unique(1)", x.unique(1), 2);
        padIs(x, "bb");
        due("unique(2)", x.unique(2), 3);
        padIs(x, "bab");
        due("unique(3)", x.unique(3), 1);
        padIs(x, "b");
        due("unique(4)", x.unique(4), 1);
        padIs(x, "c");
        due("unique(7)", x.unique(7), 1);
        padIs(x, "a");
        saying(x, "stays");
        due("unique(5)", x.unique(5), NONE);
        due("unique(6)", x.unique(6), NONE);
        due("unique(0)", x.unique(0), BAD_VALUE);
        due("unique(8)", x.unique(8), NO_SUCH);
        due("unique(-1)", x.unique(-1), NO_SUCH);
        due("unique(MIN)", x.unique(MIN), NO_SUCH);
        due("unique(MAX)", x.unique(MAX), NO_SUCH);
        padIs(x, "stays");
        FactorBranches y = with("hgc/c");
        due("unique(1) of several", y.unique(1), 1);
        padIs(y, "g");
        FactorBranches z = with("aab/ab/b");
        due("unique(1), the shortest of a class", z.unique(1), 2);
        padIs(z, "aa");
    }

    private static void p27Absent() {
        promise = 27;
        FactorBranches x = with("aabba/ab");
        due("absent(1)", x.absent(1), 3);
        padIs(x, "aaa");
        due("absent(2)", x.absent(2), 3);
        padIs(x, "aaa");
        due("absent(3)", x.absent(3), 1);
        padIs(x, "c");
        due("absent(8)", x.absent(8), 1);
        padIs(x, "c");
        FactorBranches y = with("aab/bb");
        due("absent(2), the least one", y.absent(2), 2);
        padIs(y, "ba");
        FactorBranches z = with("aaababbbaa");
        due("absent(2), all of length 3 are there", z.absent(2), 4);
        padIs(z, "aaaa");
        saying(x, "stays");
        due("absent(0)", x.absent(0), BAD_VALUE);
        due("absent(9)", x.absent(9), BAD_VALUE);
        due("absent(MIN)", x.absent(MIN), BAD_VALUE);
        due("absent(MAX)", x.absent(MAX), BAD_VALUE);
        padIs(x, "stays");
        FactorBranches full = saying(with(many("a", 60)), "stays");
        due("absent(1) of 61 letters", full.absent(1), TOO_MANY);
        padIs(full, "stays");
        due("absent(2)", full.absent(2), 1);
        padIs(full, "b");
        FactorBranches less = with(many("a", 59) + "b");
        due("absent(1) of 60 letters", less.absent(1), 60);
        padIs(less, many("a", 60));
        FactorBranches h = with("abcdefgh");
        due("absent(8) of two letters", h.absent(8), 2);
        padIs(h, "aa");
        FactorBranches none = new FactorBranches();
        due("absent(1) in version 0", none.absent(1), 1);
        padIs(none, "a");
    }

    private static void p28Minimal() {
        promise = 28;
        due("minimal() in version 0", new FactorBranches().minimal(), 0);
        due("minimal() of a", with("a").minimal(), 1);
        due("minimal() of ab: aa, ba, bb", with("ab").minimal(), 3);
        due("minimal() of a/b: aa, ab, ba, bb", with("a/b").minimal(), 4);
        due("minimal() of aa: aaa", with("aa").minimal(), 1);
        due("minimal() of abab/bab: aa, bb, baba", with("abab/bab").minimal(), 3);
        due("minimal() of aba: aa, bb, bab", with("aba").minimal(), 3);
        due("minimal() of an empty word", with("").minimal(), 0);
        due("minimal() of 60 letters: one of 61", with(many("a", 60)).minimal(), 1);
        due("minimal() of abcdefgh", with("abcdefgh").minimal(), 57);
    }

    private static void p29Count() {
        promise = 29;
        FactorBranches x = with("abcbc/abc");
        int[] want = {10, 11, 2, 8, 7, 9, 3};
        for (int what = 0; what < want.length; what++) due("count(" + what + ")", x.count(what), want[what]);
        x.go(3);
        int[] earlier = {3, 11, 1, 2, 2, 3, 0};
        for (int what = 0; what < earlier.length; what++) due("count(" + what + ") of ab", x.count(what), earlier[what]);
        due("count(7)", x.count(7), BAD_VALUE);
        due("count(-1)", x.count(-1), BAD_VALUE);
        due("count(MIN)", x.count(MIN), BAD_VALUE);
        due("count(MAX)", x.count(MAX), BAD_VALUE);
        FactorBranches full = with(many("a", 60));
        int[] sixty = {61, 62, 1, 60, 60, 60, 59};
        for (int what = 0; what < sixty.length; what++) due("count(" + what + ") of 60", full.count(what), sixty[what]);
    }
}
