/**
 * An index of all factors of several words that grow letter by letter, with versions that form a
 * tree. Every row is made with the object and used again, so that no call makes an object.
 */
public final class FactorBranches {
    public static final int NO_SUCH = -1, BAD_VALUE = -2, BAD_TEXT = -3, TOO_MANY = -4, NOT_POSSIBLE = -5, NONE = -6;

    private static final int MOST_WORDS = 6;
    private static final int MOST_LETTERS = 60;
    private static final int MOST_VERSIONS = 400;
    private static final int MOST_CHARACTERS = 60;
    private static final int ALPHABET = 8;
    private static final int FIRST_LETTER = 97;
    private static final int SLASH = 47;
    private static final int LOWEST_CODE = 33;
    private static final int HIGHEST_CODE = 126;
    /** The step of a version that begins a word; every other step is a letter. */
    private static final int WORD_BEGINS = -1;
    /** Stands in the place of a version for what has been made of none. */
    private static final int NO_VERSION = -1;
    /** Stands for the empty sequence where a class is asked for. */
    private static final int EMPTY_SEQUENCE = -1;

    private final History history = new History();
    private final Pad slate = new Pad();
    private final Text text = new Text();
    private final Classes classes = new Classes();
    private final Beginnings beginnings = new Beginnings();
    private final Text pattern = new Text();
    private final Text oneText = new Text();
    private final Text otherText = new Text();
    private final Sweep sweep = new Sweep();
    private final Sweep otherSweep = new Sweep();
    private int present = 0;

    public FactorBranches() {
    }

    // ---- words and versions

    public int begin() {
        if (history.wordsIn(present) >= MOST_WORDS || !history.hasRoomFor(1)) {
            return TOO_MANY;
        }
        present = history.grow(present, WORD_BEGINS);
        return present;
    }

    public int append(int letter) {
        if (!isLetter(letter)) {
            return BAD_VALUE;
        }
        if (history.wordsIn(present) == 0) {
            return NOT_POSSIBLE;
        }
        if (history.lettersIn(present) >= MOST_LETTERS || !history.hasRoomFor(1)) {
            return TOO_MANY;
        }
        present = history.grow(present, letter);
        return present;
    }

    public int load() {
        if (slate.faultAsWords() != NONE) {
            return BAD_TEXT;
        }
        int length = slate.size();
        int slashes = slate.slashes();
        int words = history.wordsIn(present);
        if (length > 0 && words == 0 && slate.characterAt(0) != SLASH) {
            return NOT_POSSIBLE;
        }
        int letters = history.lettersIn(present) + length - slashes;
        if (words + slashes > MOST_WORDS || letters > MOST_LETTERS || !history.hasRoomFor(length)) {
            return TOO_MANY;
        }
        for (int i = 0; i < length; i++) {
            int character = slate.characterAt(i);
            present = history.grow(present, character == SLASH ? WORD_BEGINS : character - FIRST_LETTER);
        }
        slate.clear();
        return present;
    }

    public int go(int version) {
        if (!history.has(version)) {
            return NO_SUCH;
        }
        int left = present;
        present = version;
        return left;
    }

    public int back(int steps) {
        if (steps < 0 || steps > MOST_VERSIONS) {
            return BAD_VALUE;
        }
        int ancestor = history.ancestorOf(present, steps);
        if (ancestor != NONE) {
            present = ancestor;
        }
        return ancestor;
    }

    public int version(int version, int what) {
        if (!history.has(version)) {
            return NO_SUCH;
        }
        switch (what) {
            case 0:
                return history.parentOf(version);
            case 1:
                return history.childrenOf(version);
            case 2:
                return history.wordsIn(version);
            case 3:
                return history.lettersIn(version);
            case 4:
                return history.depthOf(version);
            case 5:
                return factorsOfOnly(version, 0);
            default:
                return BAD_VALUE;
        }
    }

    public int meet(int one, int other) {
        if (!history.has(one) || !history.has(other)) {
            return NO_SUCH;
        }
        return history.latestCommon(one, other);
    }

    public int more(int one, int other) {
        if (!history.has(one) || !history.has(other)) {
            return NO_SUCH;
        }
        return factorsOfOnly(one, other);
    }

    public int letter(int word, int index) {
        showPresent();
        if (word < 0 || word >= text.wordCount()) {
            return NO_SUCH;
        }
        int length = text.wordEnd(word) - text.wordStart(word);
        if (index == -1) {
            return length;
        }
        if (index < 0 || index >= length) {
            return NONE;
        }
        return text.letterAt(text.wordStart(word) + index);
    }

    // ---- the pad

    public int say(int character) {
        if (character < LOWEST_CODE || character > HIGHEST_CODE) {
            return BAD_VALUE;
        }
        if (slate.size() >= MOST_CHARACTERS) {
            return TOO_MANY;
        }
        slate.add(character);
        return slate.size();
    }

    public int wipe() {
        int length = slate.size();
        slate.clear();
        return length;
    }

    public int pad(int index) {
        return index == -1 ? slate.size() : slate.characterAt(index);
    }

    public int fault(int how) {
        if (how != 0 && how != 1) {
            return BAD_VALUE;
        }
        return how == 0 ? slate.faultAsPattern() : slate.faultAsWords();
    }

    // ---- occurrences of the pattern of the pad

    public int occurs(int what) {
        if (what < 0 || what > 3) {
            return BAD_VALUE;
        }
        if (!readPattern()) {
            return BAD_TEXT;
        }
        showPresent();
        switch (what) {
            case 0:
                return text.endsOf(pattern);
            case 1:
                return text.wordsWith(pattern);
            case 2:
                return classOfPattern();
            default:
                return text.mostApart(pattern);
        }
    }

    public int end(int k) {
        if (!readPattern()) {
            return BAD_TEXT;
        }
        showPresent();
        int end = text.endNumber(pattern, k);
        return end == NONE ? NONE : text.placeCode(end);
    }

    public int matches(int characters) {
        if (!readPattern()) {
            return BAD_TEXT;
        }
        if (characters < 1 || characters > pattern.length()) {
            return BAD_VALUE;
        }
        showPresent();
        int matched = 0;
        for (int at = 0; at < characters; at++) {
            matched = sweep.advance(pattern, at, text, text.length());
        }
        return matched;
    }

    public int parts() {
        if (!readPattern()) {
            return BAD_TEXT;
        }
        showPresent();
        int parts = 1;
        int begun = 0;
        for (int at = 0; at < pattern.length(); at++) {
            int matched = sweep.advance(pattern, at, text, text.length());
            if (matched == 0) {
                return NONE;
            }
            // Each part goes as far as it can: every part of a factor is a factor, so no other cut is better.
            if (matched < at - begun + 1) {
                parts++;
                begun = at;
            }
        }
        return parts;
    }

    // ---- distinct factors

    public int factors(int least, int length) {
        if (!isEndCount(least) || length < 0 || length > MOST_LETTERS) {
            return BAD_VALUE;
        }
        showClasses();
        return classes.factorsWith(least, length);
    }

    public int kth(int least, int k) {
        if (!isEndCount(least)) {
            return BAD_VALUE;
        }
        showClasses();
        beginnings.refresh(text);
        int left = k;
        for (int rank = 0; rank < text.length() && left >= 0; rank++) {
            int start = beginnings.startAt(rank);
            int fresh = beginnings.sharedAt(rank) + 1;
            int often = classes.lengthWith(text, least, start, fresh);
            if (left < often - fresh + 1) {
                return write(start, fresh + left);
            }
            left -= often - fresh + 1;
        }
        return NONE;
    }

    public int before() {
        if (!readPattern()) {
            return BAD_TEXT;
        }
        showPresent();
        beginnings.refresh(text);
        return beginnings.factorsBefore(text, pattern);
    }

    // ---- classes

    public int group(int index, int what) {
        showClasses();
        if (!classes.has(index)) {
            return NO_SUCH;
        }
        switch (what) {
            case 0:
                return classes.longestIn(index);
            case 1:
                return classes.shortestIn(index);
            case 2:
                return classes.endsIn(index);
            case 3:
                return classes.linkOf(index);
            case 4:
                return classes.stepsOf(index);
            case 5:
                return classes.wordsOf(index);
            case 6:
                return text.placeCode(classes.firstEndOf(index));
            default:
                return BAD_VALUE;
        }
    }

    public int spell(int index) {
        showClasses();
        if (!classes.has(index)) {
            return NO_SUCH;
        }
        return write(classes.longestStart(index), classes.longestIn(index));
    }

    public int step(int index, int letter) {
        showClasses();
        if (index != EMPTY_SEQUENCE && !classes.has(index)) {
            return NO_SUCH;
        }
        if (!isLetter(letter)) {
            return BAD_VALUE;
        }
        return classes.classAfter(text, index, letter);
    }

    // ---- several words

    public int common(int words, int least) {
        if (!isWordSet(words)) {
            return NO_SUCH;
        }
        if (least < 1 || least > MOST_WORDS) {
            return BAD_VALUE;
        }
        showClasses();
        int found = classes.longestShared(text, words, least);
        return found == NONE ? NONE : write(classes.longestStart(found), classes.longestIn(found));
    }

    public int unique(int words) {
        if (!isWordSet(words)) {
            return NO_SUCH;
        }
        if (words == 0) {
            return BAD_VALUE;
        }
        showClasses();
        int found = classes.shortestOnlyIn(text, words);
        return found == NONE ? NONE : write(classes.shortestStart(found), classes.shortestIn(found));
    }

    public int absent(int letters) {
        if (letters < 1 || letters > ALPHABET) {
            return BAD_VALUE;
        }
        showPresent();
        for (int length = 1; length <= MOST_LETTERS; length++) {
            pattern.takeFirstSequence(length);
            boolean untried = true;
            // There are at most 60 factors of one length, so one of 61 sequences is none.
            for (int tried = 0; tried <= MOST_LETTERS && untried; tried++) {
                if (text.endNumber(pattern, 0) == NONE) {
                    slate.write(pattern, 0, length);
                    return length;
                }
                untried = pattern.turnToNext(letters);
            }
        }
        return TOO_MANY;
    }

    public int minimal() {
        showClasses();
        return classes.minimalAbsent();
    }

    // ---- numbers

    public int count(int what) {
        if (what < 0 || what > 6) {
            return BAD_VALUE;
        }
        if (what > 3) {
            showClasses();
        }
        switch (what) {
            case 0:
                return present;
            case 1:
                return history.size();
            case 2:
                return history.wordsIn(present);
            case 3:
                return history.lettersIn(present);
            case 4:
                return classes.size();
            case 5:
                return classes.allSteps();
            default:
                return classes.longestRepeat();
        }
    }

    // ---- what several calls use

    private static boolean isLetter(int letter) {
        return letter >= 0 && letter < ALPHABET;
    }

    private static boolean isEndCount(int least) {
        return least >= 1 && least <= MOST_LETTERS;
    }

    private boolean isWordSet(int words) {
        return words >= 0 && words >> history.wordsIn(present) == 0;
    }

    private void showPresent() {
        text.takeVersion(history, present);
    }

    private void showClasses() {
        showPresent();
        classes.refresh(text);
    }

    private boolean readPattern() {
        if (slate.faultAsPattern() != NONE) {
            return false;
        }
        pattern.takePattern(slate);
        return true;
    }

    private int classOfPattern() {
        int end = text.endNumber(pattern, 0);
        if (end == NONE) {
            return NONE;
        }
        classes.refresh(text);
        return classes.classAt(end, pattern.length());
    }

    private int write(int start, int length) {
        slate.write(text, start, length);
        return length;
    }

    /** Counts each factor of one version at its first end there, unless it is a factor of the other one. */
    private int factorsOfOnly(int one, int other) {
        oneText.takeVersion(history, one);
        otherText.takeVersion(history, other);
        int found = 0;
        for (int end = 0; end < oneText.length(); end++) {
            int earlier = sweep.advance(oneText, end, oneText, end);
            int there = otherSweep.advance(oneText, end, otherText, otherText.length());
            found += oneText.placeAt(end) + 1 - Math.max(earlier, there);
        }
        return found;
    }

    /** The tree of versions. A version is its parent and one step more, so that nothing is copied. */
    private static final class History {
        private final int[] parents = new int[MOST_VERSIONS];
        private final int[] steps = new int[MOST_VERSIONS];
        private final int[] wordCounts = new int[MOST_VERSIONS];
        private final int[] letterCounts = new int[MOST_VERSIONS];
        private int size = 1;

        int size() {
            return size;
        }

        boolean has(int version) {
            return version >= 0 && version < size;
        }

        boolean hasRoomFor(int versions) {
            return versions <= MOST_VERSIONS - size;
        }

        int parentOf(int version) {
            return has(version) && version > 0 ? parents[version] : NONE;
        }

        int stepOf(int version) {
            return has(version) ? steps[version] : NONE;
        }

        int wordsIn(int version) {
            return has(version) ? wordCounts[version] : 0;
        }

        int lettersIn(int version) {
            return has(version) ? letterCounts[version] : 0;
        }

        /** Each step adds one word or one letter. */
        int depthOf(int version) {
            return wordsIn(version) + lettersIn(version);
        }

        int childrenOf(int version) {
            int children = 0;
            for (int child = 1; child < size; child++) {
                if (parents[child] == version) {
                    children++;
                }
            }
            return children;
        }

        int grow(int parent, int step) {
            if (!has(parent) || !hasRoomFor(1)) {
                return parent;
            }
            boolean beginsWord = step == WORD_BEGINS;
            parents[size] = parent;
            steps[size] = step;
            wordCounts[size] = wordCounts[parent] + (beginsWord ? 1 : 0);
            letterCounts[size] = letterCounts[parent] + (beginsWord ? 0 : 1);
            size++;
            return size - 1;
        }

        int ancestorOf(int version, int generations) {
            int at = version;
            for (int i = 0; i < generations && at != NONE; i++) {
                at = parentOf(at);
            }
            return at;
        }

        /** A parent is always older than its child, so the younger of two versions is no ancestor of the other. */
        int latestCommon(int one, int other) {
            int left = one;
            int right = other;
            for (int i = 0; i < 2 * MOST_VERSIONS && left != right; i++) {
                if (left > right) {
                    left = parentOf(left);
                } else {
                    right = parentOf(right);
                }
            }
            return left;
        }
    }

    /** The pad. */
    private static final class Pad {
        private final int[] characters = new int[MOST_CHARACTERS];
        private int size = 0;

        int size() {
            return size;
        }

        int characterAt(int index) {
            return index >= 0 && index < size ? characters[index] : NONE;
        }

        void add(int character) {
            if (size < MOST_CHARACTERS) {
                characters[size] = character;
                size++;
            }
        }

        void clear() {
            size = 0;
        }

        void write(Text source, int start, int length) {
            clear();
            for (int i = 0; i < length; i++) {
                add(FIRST_LETTER + source.letterAt(start + i));
            }
        }

        int faultAsPattern() {
            return size == 0 ? 0 : firstFault(false);
        }

        int faultAsWords() {
            return firstFault(true);
        }

        private int firstFault(boolean slashesToo) {
            for (int i = 0; i < size; i++) {
                boolean allowed = isLetter(characters[i] - FIRST_LETTER) || slashesToo && characters[i] == SLASH;
                if (!allowed) {
                    return i;
                }
            }
            return NONE;
        }

        int slashes() {
            int found = 0;
            for (int i = 0; i < size; i++) {
                if (characters[i] == SLASH) {
                    found++;
                }
            }
            return found;
        }
    }

    /**
     * The letters of all words of a version, one word behind the other, or those of one pattern. A
     * position counts over all words: positions are then in the order in which ends are counted.
     */
    private static final class Text {
        private final int[] letters = new int[MOST_LETTERS];
        private final int[] words = new int[MOST_LETTERS];
        private final int[] places = new int[MOST_LETTERS];
        private final int[] rests = new int[MOST_LETTERS];
        private final int[] starts = new int[MOST_WORDS];
        private int wordCount = 0;
        private int length = 0;
        private int version = NO_VERSION;

        int wordCount() {
            return wordCount;
        }

        int length() {
            return length;
        }

        int versionTaken() {
            return version;
        }

        boolean has(int position) {
            return position >= 0 && position < length;
        }

        int letterAt(int position) {
            return has(position) ? letters[position] : 0;
        }

        int wordAt(int position) {
            return has(position) ? words[position] : 0;
        }

        /** The index of a letter in its own word. */
        int placeAt(int position) {
            return has(position) ? places[position] : 0;
        }

        int wordStart(int word) {
            return word >= 0 && word < wordCount ? starts[word] : length;
        }

        int wordEnd(int word) {
            return wordStart(word + 1);
        }

        int placeCode(int position) {
            return 100 * wordAt(position) + placeAt(position);
        }

        /** How many letters there are from a position to the end of its word. */
        int lettersFrom(int position) {
            return has(position) ? rests[position] : 0;
        }

        /** A version never changes, so one that has been taken need not be taken again. */
        void takeVersion(History history, int wanted) {
            if (version == wanted) {
                return;
            }
            version = wanted;
            wordCount = Math.min(history.wordsIn(wanted), MOST_WORDS);
            length = Math.min(history.lettersIn(wanted), MOST_LETTERS);
            int at = wanted;
            for (int i = 0; i < MOST_VERSIONS && at > 0; i++) {
                int word = history.wordsIn(at) - 1;
                if (history.stepOf(at) == WORD_BEGINS) {
                    putStart(word, history.lettersIn(at));
                } else {
                    putLetter(history.lettersIn(at) - 1, history.stepOf(at), word);
                }
                at = history.parentOf(at);
            }
            for (int i = 0; i < length; i++) {
                places[i] = i - wordStart(words[i]);
                rests[i] = wordEnd(words[i]) - i;
            }
        }

        void takePattern(Pad source) {
            becomeOneWord(source.size());
            for (int i = 0; i < length; i++) {
                letters[i] = source.characterAt(i) - FIRST_LETTER;
            }
        }

        void takeFirstSequence(int wanted) {
            becomeOneWord(wanted);
            for (int i = 0; i < length; i++) {
                letters[i] = 0;
            }
        }

        private void becomeOneWord(int wanted) {
            version = NO_VERSION;
            wordCount = 1;
            starts[0] = 0;
            length = Math.max(0, Math.min(wanted, MOST_LETTERS));
            for (int i = 0; i < length; i++) {
                words[i] = 0;
                places[i] = i;
                rests[i] = length - i;
            }
        }

        private void putStart(int word, int position) {
            if (word >= 0 && word < MOST_WORDS) {
                starts[word] = position;
            }
        }

        private void putLetter(int position, int letter, int word) {
            if (has(position)) {
                letters[position] = letter;
                words[position] = word;
            }
        }

        /** Turns the letters to the next sequence of this length; false if this was the last one. */
        boolean turnToNext(int alphabet) {
            for (int i = length - 1; i >= 0; i--) {
                if (letters[i] + 1 < alphabet) {
                    letters[i]++;
                    return true;
                }
                letters[i] = 0;
            }
            return false;
        }

        boolean hasEnd(Text wanted, int end) {
            if (!has(end) || placeAt(end) + 1 < wanted.length()) {
                return false;
            }
            int last = wanted.length() - 1;
            for (int i = 0; i <= last; i++) {
                if (letterAt(end - i) != wanted.letterAt(last - i)) {
                    return false;
                }
            }
            return true;
        }

        int endsOf(Text wanted) {
            int ends = 0;
            for (int end = 0; end < length; end++) {
                if (hasEnd(wanted, end)) {
                    ends++;
                }
            }
            return ends;
        }

        int wordsWith(Text wanted) {
            int set = 0;
            for (int end = 0; end < length; end++) {
                if (hasEnd(wanted, end)) {
                    set |= 1 << words[end];
                }
            }
            return set;
        }

        int endNumber(Text wanted, int k) {
            int left = k;
            for (int end = 0; end < length && left >= 0; end++) {
                if (hasEnd(wanted, end)) {
                    if (left == 0) {
                        return end;
                    }
                    left--;
                }
            }
            return NONE;
        }

        /** The occurrence that ends first leaves the most room for those behind it. */
        int mostApart(Text wanted) {
            int taken = 0;
            int free = 0;
            for (int end = 0; end < length; end++) {
                if (end - wanted.length() + 1 >= free && hasEnd(wanted, end)) {
                    taken++;
                    free = end + 1;
                }
            }
            return taken;
        }

        boolean sameBefore(int one, int other, int count) {
            for (int i = 1; i <= count; i++) {
                if (letterAt(one - i) != letterAt(other - i)) {
                    return false;
                }
            }
            return true;
        }

        /** How many letters the rest of a word from a position on shares with the rest of a word of another text. */
        int sharedFrom(int position, Text other, int otherPosition) {
            int most = Math.min(lettersFrom(position), other.lettersFrom(otherPosition));
            for (int i = 0; i < most; i++) {
                if (letterAt(position + i) != other.letterAt(otherPosition + i)) {
                    return i;
                }
            }
            return most;
        }

        /** Compares what two words have from two positions on. */
        boolean comesBefore(int one, int other) {
            int shared = sharedFrom(one, this, other);
            if (shared == lettersFrom(one) || shared == lettersFrom(other)) {
                return lettersFrom(one) < lettersFrom(other);
            }
            return letterAt(one + shared) < letterAt(other + shared);
        }
    }

    /**
     * Goes along one text, letter after letter from its first one on, and holds for each letter of
     * another text how long the common end of both is.
     */
    private static final class Sweep {
        private final int[] lengths = new int[MOST_LETTERS];

        int lengthAt(int position) {
            return position >= 0 && position < MOST_LETTERS ? lengths[position] : 0;
        }

        /** Returns the greatest common length with the letters of the other text before a bound. */
        int advance(Text here, int at, Text there, int bound) {
            int letter = here.letterAt(at);
            boolean goesOn = here.placeAt(at) > 0;
            int best = 0;
            // From behind, for each length builds on the one that the letter before it had.
            // The rows are read as they are: this loop is the dearest of all.
            for (int i = Math.min(Math.min(bound, there.length), MOST_LETTERS) - 1; i >= 0; i--) {
                int length = 0;
                if (there.letters[i] == letter) {
                    length = goesOn && i > 0 && there.places[i] > 0 ? lengths[i - 1] + 1 : 1;
                }
                lengths[i] = length;
                if (length > best) {
                    best = length;
                }
            }
            return best;
        }
    }

    /** The classes of the factors of the text of which they were last made, in their order. */
    private static final class Classes {
        /**
         * The longest factor of a class begins a word, which gives one class for each letter at most,
         * or stands behind two letters, which joins two classes to one: fewer than that again.
         */
        private static final int MOST_CLASSES = 2 * MOST_LETTERS;

        private final Sweep sweep = new Sweep();
        private final int[] endCounts = new int[MOST_LETTERS + 1];
        private final int[][] classOf = new int[MOST_LETTERS][MOST_LETTERS + 1];
        private final int[] firstEnds = new int[MOST_CLASSES];
        private final int[] longest = new int[MOST_CLASSES];
        private final int[] shortest = new int[MOST_CLASSES];
        private final int[] ends = new int[MOST_CLASSES];
        private final int[] links = new int[MOST_CLASSES];
        private final int[] wordSets = new int[MOST_CLASSES];
        private final int[] stepSets = new int[MOST_CLASSES];
        private int letterSet = 0;
        private int size = 0;
        private int version = NO_VERSION;

        int size() {
            return size;
        }

        boolean has(int index) {
            return index >= 0 && index < size;
        }

        int longestIn(int index) {
            return has(index) ? longest[index] : 0;
        }

        int shortestIn(int index) {
            return has(index) ? shortest[index] : 0;
        }

        int endsIn(int index) {
            return has(index) ? ends[index] : 0;
        }

        int linkOf(int index) {
            return has(index) ? links[index] : NONE;
        }

        /** What is no class is taken for the empty sequence here, as the link of a class without one. */
        int stepsOf(int index) {
            return has(index) ? stepSets[index] : letterSet;
        }

        int wordsOf(int index) {
            return has(index) ? wordSets[index] : 0;
        }

        int firstEndOf(int index) {
            return has(index) ? firstEnds[index] : 0;
        }

        int longestStart(int index) {
            return firstEndOf(index) - longestIn(index) + 1;
        }

        int shortestStart(int index) {
            return firstEndOf(index) - shortestIn(index) + 1;
        }

        /** The class of the factor that has a length and an end. */
        int classAt(int end, int length) {
            boolean known = end >= 0 && end < MOST_LETTERS && length >= 0 && length <= MOST_LETTERS;
            return known ? classOf[end][length] : NONE;
        }

        void refresh(Text text) {
            if (version == text.versionTaken()) {
                return;
            }
            version = text.versionTaken();
            size = 0;
            letterSet = 0;
            for (int end = 0; end < text.length(); end++) {
                letterSet |= 1 << text.letterAt(end);
                sweep.advance(text, end, text, text.length());
                int most = Math.min(text.placeAt(end) + 1, MOST_LETTERS);
                countEnds(text.length(), most);
                addFactorsAt(text, end, takeKnown(end) + 1, most);
            }
        }

        /** Counts, for each length up to the most, the ends of the factor of that length at which the sweep stands. */
        private void countEnds(int positions, int most) {
            for (int length = 0; length <= most && length < endCounts.length; length++) {
                endCounts[length] = 0;
            }
            for (int end = 0; end < positions; end++) {
                int length = sweep.lengthAt(end);
                if (length >= 0 && length < endCounts.length) {
                    endCounts[length]++;
                }
            }
            for (int length = Math.min(most, endCounts.length - 1) - 1; length >= 0; length--) {
                endCounts[length] += endCounts[length + 1];
            }
        }

        /** Takes the classes of those factors that have an earlier end from there; returns the greatest length of one. */
        private int takeKnown(int end) {
            int best = 0;
            int bestEnd = 0;
            for (int earlier = 0; earlier < end; earlier++) {
                if (sweep.lengthAt(earlier) > best) {
                    best = sweep.lengthAt(earlier);
                    bestEnd = earlier;
                }
            }
            for (int length = 1; length <= best; length++) {
                putClass(end, length, classAt(bestEnd, length));
            }
            return best;
        }

        /** Factors of one end and neighbouring lengths belong together as long as they have equally many ends. */
        private void addFactorsAt(Text text, int end, int first, int most) {
            int least = first;
            for (int length = Math.max(0, first); length <= most && length < endCounts.length; length++) {
                putClass(end, length, size);
                boolean last = length == most || length + 1 == endCounts.length;
                if (last || endCounts[length + 1] != endCounts[length]) {
                    addClass(text, end, least, length);
                    least = length + 1;
                }
            }
        }

        private void putClass(int end, int length, int index) {
            if (end >= 0 && end < MOST_LETTERS && length >= 0 && length <= MOST_LETTERS) {
                classOf[end][length] = index;
            }
        }

        private void addClass(Text text, int end, int least, int most) {
            if (size >= MOST_CLASSES || most < 1 || most > MOST_LETTERS) {
                return;
            }
            int words = 0;
            int steps = 0;
            for (int other = 0; other < text.length(); other++) {
                if (sweep.lengthAt(other) >= most) {
                    words |= 1 << text.wordAt(other);
                    steps |= text.lettersFrom(other) > 1 ? 1 << text.letterAt(other + 1) : 0;
                }
            }
            firstEnds[size] = end;
            longest[size] = most;
            shortest[size] = least;
            ends[size] = endCounts[most];
            links[size] = least > 1 ? classAt(end, least - 1) : NONE;
            wordSets[size] = words;
            stepSets[size] = steps;
            size++;
        }

        int classAfter(Text text, int index, int letter) {
            int length = longestIn(index);
            int behind = firstEndOf(index) + 1;
            for (int next = 0; next < text.length(); next++) {
                boolean fits = text.letterAt(next) == letter && text.placeAt(next) >= length;
                if (fits && text.sameBefore(next, behind, length)) {
                    return classAt(next, length + 1);
                }
            }
            return NONE;
        }

        int factorsWith(int least, int length) {
            int found = 0;
            for (int i = 0; i < size; i++) {
                if (ends[i] >= least) {
                    if (length == 0) {
                        found += longest[i] - shortest[i] + 1;
                    } else if (length >= shortest[i] && length <= longest[i]) {
                        found++;
                    }
                }
            }
            return found;
        }

        /** The greatest length, from a first one on, with which what begins at a start has so many ends; the first less one if none. */
        int lengthWith(Text text, int least, int start, int first) {
            int last = first - 1;
            int most = text.lettersFrom(start);
            for (int length = first; length <= most; length++) {
                // A longer factor never has more ends.
                if (endsIn(classAt(start + length - 1, length)) < least) {
                    break;
                }
                last = length;
            }
            return last;
        }

        int longestShared(Text text, int words, int least) {
            int best = NONE;
            for (int i = 0; i < size; i++) {
                if (Integer.bitCount(wordSets[i] & words) >= least) {
                    int gain = best == NONE ? 1 : longest[i] - longest[best];
                    if (gain > 0 || gain == 0 && text.comesBefore(longestStart(i), longestStart(best))) {
                        best = i;
                    }
                }
            }
            return best;
        }

        int shortestOnlyIn(Text text, int words) {
            int best = NONE;
            for (int i = 0; i < size; i++) {
                if (wordSets[i] == words) {
                    int gain = best == NONE ? 1 : shortest[best] - shortest[i];
                    if (gain > 0 || gain == 0 && text.comesBefore(shortestStart(i), shortestStart(best))) {
                        best = i;
                    }
                }
            }
            return best;
        }

        /**
         * Counts the sequences "a u b" by "a u": this is the shortest factor of its class and u the
         * longest of the link, for otherwise all ends of u follow on a, and "a u b" is a factor with "u b".
         */
        int minimalAbsent() {
            int found = 0;
            for (int i = 0; i < size; i++) {
                found += Integer.bitCount(stepsOf(links[i]) & ~stepSets[i]);
            }
            return found;
        }

        int allSteps() {
            int found = Integer.bitCount(letterSet);
            for (int i = 0; i < size; i++) {
                found += Integer.bitCount(stepSets[i]);
            }
            return found;
        }

        int longestRepeat() {
            int best = 0;
            for (int i = 0; i < size; i++) {
                if (ends[i] >= 2) {
                    best = Math.max(best, longest[i]);
                }
            }
            return best;
        }
    }

    /**
     * The positions of the text of which they were last made, in the lexicographic order of what
     * stands from there to the end of the word. All distinct factors in their order are then the
     * beginnings of these sequences, without those that each shares with the one before it.
     */
    private static final class Beginnings {
        private final int[] starts = new int[MOST_LETTERS];
        private final int[] shared = new int[MOST_LETTERS];
        private int size = 0;
        private int version = NO_VERSION;

        int startAt(int rank) {
            return rank >= 0 && rank < size ? starts[rank] : 0;
        }

        /** How many letters the sequence of a rank shares with the one before it. */
        int sharedAt(int rank) {
            return rank >= 0 && rank < size ? shared[rank] : 0;
        }

        void refresh(Text text) {
            if (version == text.versionTaken()) {
                return;
            }
            version = text.versionTaken();
            size = 0;
            // From behind: where a word is one letter over and over, no rest of it comes before a shorter one.
            for (int start = text.length() - 1; start >= 0; start--) {
                insert(text, start);
            }
            for (int rank = 0; rank < size; rank++) {
                shared[rank] = rank == 0 ? 0 : text.sharedFrom(starts[rank - 1], text, starts[rank]);
            }
        }

        private void insert(Text text, int start) {
            if (size >= MOST_LETTERS) {
                return;
            }
            int rank = size;
            while (rank > 0 && text.comesBefore(start, starts[rank - 1])) {
                starts[rank] = starts[rank - 1];
                rank--;
            }
            starts[rank] = start;
            size++;
        }

        int factorsBefore(Text text, Text pattern) {
            int found = 0;
            for (int rank = 0; rank < size; rank++) {
                found += Math.max(0, lengthBefore(text, starts[rank], pattern) - shared[rank]);
            }
            return found;
        }

        /** The length up to which what begins at a start comes before the pattern. */
        private int lengthBefore(Text text, int start, Text pattern) {
            int same = text.sharedFrom(start, pattern, 0);
            if (same == pattern.length()) {
                return same - 1;
            }
            boolean greater = same < text.lettersFrom(start) && text.letterAt(start + same) > pattern.letterAt(same);
            return greater ? same : text.lettersFrom(start);
        }
    }
}
