import java.util.ArrayList;
import java.util.HashMap;
import java.util.List;
import java.util.Map;
import java.util.TreeSet;

/**
 * The document again, straight from its definitions and without any cleverness: words are texts,
 * factors are sets of texts, and every answer is looked up by trying. The program is compared with it.
 */
final class PlainModel {
    static final int NO_SUCH = -1, BAD_VALUE = -2, BAD_TEXT = -3, TOO_MANY = -4, NOT_POSSIBLE = -5, NONE = -6;

    /** The words of one version, and what has been found out about them. */
    private static final class State {
        final List<String> words = new ArrayList<>();
        TreeSet<String> factors;
        Map<String, List<Integer>> ends;
        List<Group> groups;

        int letters() {
            int sum = 0;
            for (String word : words) sum += word.length();
            return sum;
        }

        TreeSet<String> factors() {
            if (factors == null) {
                factors = new TreeSet<>();
                ends = new HashMap<>();
                for (int w = 0; w < words.size(); w++) {
                    String word = words.get(w);
                    for (int e = 0; e < word.length(); e++) {
                        for (int b = 0; b <= e; b++) {
                            String factor = word.substring(b, e + 1);
                            factors.add(factor);
                            ends.computeIfAbsent(factor, x -> new ArrayList<>()).add(100 * w + e);
                        }
                    }
                }
            }
            return factors;
        }

        List<Integer> ends(String sequence) {
            factors();
            return ends.getOrDefault(sequence, List.of());
        }

        boolean isFactor(String sequence) {
            return factors().contains(sequence);
        }

        int wordSet(String sequence) {
            int set = 0;
            for (int end : ends(sequence)) set |= 1 << end / 100;
            return set;
        }

        int steps(String sequence) {
            int set = 0;
            for (int x = 0; x < 8; x++) if (isFactor(sequence + (char) ('a' + x))) set |= 1 << x;
            return set;
        }

        List<Group> groups() {
            if (groups == null) {
                Map<List<Integer>, Group> byEnds = new HashMap<>();
                for (String factor : factors()) {
                    Group group = byEnds.computeIfAbsent(ends(factor), x -> new Group(x));
                    group.take(factor);
                }
                groups = new ArrayList<>(byEnds.values());
                groups.sort((x, y) -> x.ends.get(0).equals(y.ends.get(0))
                    ? Integer.compare(x.longest.length(), y.longest.length())
                    : Integer.compare(x.ends.get(0), y.ends.get(0)));
            }
            return groups;
        }

        int groupOf(String sequence) {
            List<Integer> wanted = ends(sequence);
            if (wanted.isEmpty()) return NONE;
            for (int i = 0; i < groups().size(); i++) if (groups().get(i).ends.equals(wanted)) return i;
            throw new IllegalStateException("a factor without a class: " + sequence);
        }
    }

    private static final class Group {
        final List<Integer> ends;
        String longest = null;
        String shortest = null;

        Group(List<Integer> ends) {
            this.ends = ends;
        }

        void take(String factor) {
            if (longest == null || factor.length() > longest.length()) longest = factor;
            if (shortest == null || factor.length() < shortest.length()) shortest = factor;
        }
    }

    private final List<State> states = new ArrayList<>();
    private final List<Integer> parents = new ArrayList<>();
    private int present = 0;
    private String pad = "";

    PlainModel() {
        states.add(new State());
        parents.add(NONE);
    }

    private State now() {
        return states.get(present);
    }

    private boolean hasVersion(int version) {
        return version >= 0 && version < states.size();
    }

    private int grow(boolean word, int letter) {
        State state = new State();
        state.words.addAll(now().words);
        int last = state.words.size() - 1;
        if (word) state.words.add("");
        else state.words.set(last, state.words.get(last) + (char) ('a' + letter));
        states.add(state);
        parents.add(present);
        present = states.size() - 1;
        return present;
    }

    private boolean patternIsBad() {
        return !pad.matches("[a-h]+");
    }

    private List<Integer> line(int version) {
        List<Integer> line = new ArrayList<>();
        for (int at = version; at != NONE; at = parents.get(at)) line.add(at);
        return line;
    }

    private int writeOut(String text) {
        pad = text;
        return text.length();
    }

    int begin() {
        if (now().words.size() >= 6 || states.size() >= 400) return TOO_MANY;
        return grow(true, 0);
    }

    int append(int letter) {
        if (letter < 0 || letter > 7) return BAD_VALUE;
        if (now().words.isEmpty()) return NOT_POSSIBLE;
        if (now().letters() >= 60 || states.size() >= 400) return TOO_MANY;
        return grow(false, letter);
    }

    int load() {
        if (!pad.matches("[a-h/]*")) return BAD_TEXT;
        if (now().words.isEmpty() && pad.matches("[a-h].*")) return NOT_POSSIBLE;
        int slashes = pad.replaceAll("[^/]", "").length();
        if (now().words.size() + slashes > 6 || now().letters() + pad.length() - slashes > 60
            || states.size() + pad.length() > 400) return TOO_MANY;
        for (char c : pad.toCharArray()) grow(c == '/', c - 'a');
        pad = "";
        return present;
    }

    int go(int version) {
        if (!hasVersion(version)) return NO_SUCH;
        int left = present;
        present = version;
        return left;
    }

    int back(int steps) {
        if (steps < 0 || steps > 400) return BAD_VALUE;
        List<Integer> line = line(present);
        if (steps >= line.size()) return NONE;
        present = line.get(steps);
        return present;
    }

    int version(int version, int what) {
        if (!hasVersion(version)) return NO_SUCH;
        State state = states.get(version);
        switch (what) {
            case 0: return parents.get(version);
            case 1: return (int) parents.stream().filter(x -> x == version).count();
            case 2: return state.words.size();
            case 3: return state.letters();
            case 4: return line(version).size() - 1;
            case 5: return state.factors().size();
            default: return BAD_VALUE;
        }
    }

    int meet(int one, int other) {
        if (!hasVersion(one) || !hasVersion(other)) return NO_SUCH;
        List<Integer> shared = line(one);
        shared.retainAll(line(other));
        return shared.stream().max(Integer::compare).get();
    }

    int more(int one, int other) {
        if (!hasVersion(one) || !hasVersion(other)) return NO_SUCH;
        TreeSet<String> rest = new TreeSet<>(states.get(one).factors());
        rest.removeAll(states.get(other).factors());
        return rest.size();
    }

    int letter(int word, int index) {
        if (word < 0 || word >= now().words.size()) return NO_SUCH;
        String text = now().words.get(word);
        if (index == -1) return text.length();
        return index < 0 || index >= text.length() ? NONE : text.charAt(index) - 'a';
    }

    int say(int character) {
        if (character < 33 || character > 126) return BAD_VALUE;
        if (pad.length() == 60) return TOO_MANY;
        return writeOut(pad + (char) character);
    }

    int wipe() {
        int length = pad.length();
        pad = "";
        return length;
    }

    int pad(int index) {
        if (index == -1) return pad.length();
        return index < 0 || index >= pad.length() ? NONE : pad.charAt(index);
    }

    int fault(int how) {
        if (how != 0 && how != 1) return BAD_VALUE;
        if (how == 0 && pad.isEmpty()) return 0;
        String allowed = how == 0 ? "abcdefgh" : "abcdefgh/";
        for (int i = 0; i < pad.length(); i++) if (allowed.indexOf(pad.charAt(i)) < 0) return i;
        return NONE;
    }

    int occurs(int what) {
        if (what < 0 || what > 3) return BAD_VALUE;
        if (patternIsBad()) return BAD_TEXT;
        if (what == 0) return now().ends(pad).size();
        if (what == 1) return now().wordSet(pad);
        if (what == 2) return now().groupOf(pad);
        int sum = 0;
        for (String word : now().words) sum += apart(word);
        return sum;
    }

    /** The best choice among all, not the first that fits. */
    private int apart(String word) {
        int[] best = new int[word.length() + 1];
        for (int until = 1; until <= word.length(); until++) {
            best[until] = best[until - 1];
            if (word.substring(0, until).endsWith(pad)) best[until] = Math.max(best[until], best[until - pad.length()] + 1);
        }
        return best[word.length()];
    }

    int end(int k) {
        if (patternIsBad()) return BAD_TEXT;
        List<Integer> ends = now().ends(pad);
        return k < 0 || k >= ends.size() ? NONE : ends.get(k);
    }

    int matches(int characters) {
        if (patternIsBad()) return BAD_TEXT;
        if (characters < 1 || characters > pad.length()) return BAD_VALUE;
        for (int from = 0; from < characters; from++) {
            if (now().isFactor(pad.substring(from, characters))) return characters - from;
        }
        return 0;
    }

    int parts() {
        if (patternIsBad()) return BAD_TEXT;
        int[] least = new int[pad.length() + 1];
        for (int until = 1; until <= pad.length(); until++) {
            least[until] = 1000;
            for (int from = 0; from < until; from++) {
                if (now().isFactor(pad.substring(from, until))) least[until] = Math.min(least[until], least[from] + 1);
            }
        }
        return least[pad.length()] >= 1000 ? NONE : least[pad.length()];
    }

    int factors(int least, int length) {
        if (least < 1 || least > 60 || length < 0 || length > 60) return BAD_VALUE;
        int found = 0;
        for (String factor : now().factors()) {
            if (now().ends(factor).size() >= least && (length == 0 || factor.length() == length)) found++;
        }
        return found;
    }

    int kth(int least, int k) {
        if (least < 1 || least > 60) return BAD_VALUE;
        if (k < 0) return NONE;
        int place = 0;
        for (String factor : now().factors()) {
            if (now().ends(factor).size() >= least) {
                if (place == k) return writeOut(factor);
                place++;
            }
        }
        return NONE;
    }

    int before() {
        if (patternIsBad()) return BAD_TEXT;
        return now().factors().headSet(pad).size();
    }

    int group(int index, int what) {
        if (index < 0 || index >= now().groups().size()) return NO_SUCH;
        Group group = now().groups().get(index);
        switch (what) {
            case 0: return group.longest.length();
            case 1: return group.shortest.length();
            case 2: return group.ends.size();
            case 3: return group.shortest.length() == 1 ? NONE : now().groupOf(group.shortest.substring(1));
            case 4: return now().steps(group.longest);
            case 5: return now().wordSet(group.longest);
            case 6: return group.ends.get(0);
            default: return BAD_VALUE;
        }
    }

    int spell(int index) {
        if (index < 0 || index >= now().groups().size()) return NO_SUCH;
        return writeOut(now().groups().get(index).longest);
    }

    int step(int index, int letter) {
        if (index < -1 || index >= now().groups().size()) return NO_SUCH;
        if (letter < 0 || letter > 7) return BAD_VALUE;
        String from = index == -1 ? "" : now().groups().get(index).longest;
        return now().groupOf(from + (char) ('a' + letter));
    }

    private boolean wordsAreBad(int words) {
        return words < 0 || words >= 1 << now().words.size();
    }

    int common(int words, int least) {
        if (wordsAreBad(words)) return NO_SUCH;
        if (least < 1 || least > 6) return BAD_VALUE;
        String best = null;
        for (String factor : now().factors()) {
            boolean fits = Integer.bitCount(now().wordSet(factor) & words) >= least;
            if (fits && (best == null || factor.length() > best.length())) best = factor;
        }
        return best == null ? NONE : writeOut(best);
    }

    int unique(int words) {
        if (wordsAreBad(words)) return NO_SUCH;
        if (words == 0) return BAD_VALUE;
        String best = null;
        for (String factor : now().factors()) {
            boolean fits = now().wordSet(factor) == words;
            if (fits && (best == null || factor.length() < best.length())) best = factor;
        }
        return best == null ? NONE : writeOut(best);
    }

    int absent(int letters) {
        if (letters < 1 || letters > 8) return BAD_VALUE;
        List<String> present = List.of("");
        for (int length = 1; length <= 60; length++) {
            List<String> next = new ArrayList<>();
            for (String begin : present) {
                for (int x = 0; x < letters; x++) {
                    String sequence = begin + (char) ('a' + x);
                    if (!now().isFactor(sequence)) return writeOut(sequence);
                    next.add(sequence);
                }
            }
            present = next;
        }
        return TOO_MANY;
    }

    int minimal() {
        int found = 0;
        for (String begin : now().factors()) {
            for (int x = 0; x < 8; x++) {
                String sequence = begin + (char) ('a' + x);
                if (!now().isFactor(sequence) && now().isFactor(sequence.substring(1))) found++;
            }
        }
        return found;
    }

    int count(int what) {
        switch (what) {
            case 0: return present;
            case 1: return states.size();
            case 2: return now().words.size();
            case 3: return now().letters();
            case 4: return now().groups().size();
            case 5: return stepsOfAll();
            case 6: return longestRepeat();
            default: return BAD_VALUE;
        }
    }

    private int stepsOfAll() {
        int sum = Integer.bitCount(now().steps(""));
        for (Group group : now().groups()) sum += Integer.bitCount(now().steps(group.longest));
        return sum;
    }

    private int longestRepeat() {
        int best = 0;
        for (String factor : now().factors()) if (now().ends(factor).size() >= 2) best = Math.max(best, factor.length());
        return best;
    }
}
