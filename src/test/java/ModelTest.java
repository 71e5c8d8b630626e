/** Long runs of calls, right ones and wrong ones, on the program and on the plain model side by side. */
public final class ModelTest {
    private static final int[] ODD = {Integer.MIN_VALUE, -1000, -7, -2, -1, 0, 1, 7, 8, 9, 59, 60, 61, 62, 399, 400, 401,
        1000, Integer.MAX_VALUE - 1, Integer.MAX_VALUE};
    private static final int KINDS = 29;
    /** The document says nothing about an object after so many calls. */
    private static final int MOST_CALLS = 512;

    private long seed;
    private FactorBranches program;
    private PlainModel model;
    private StringBuilder log;
    private int used;
    private static int wrong = 0;
    private static long calls = 0;

    private ModelTest(long seed) {
        this.seed = seed;
    }

    public static void main(String[] args) {
        for (int alphabet = 1; alphabet <= 8; alphabet++) {
            for (int run = 0; run < 120 && wrong == 0; run++) {
                new ModelTest(1000L * alphabet + run).mixedRun(alphabet);
            }
        }
        for (int run = 0; run < 60 && wrong == 0; run++) new ModelTest(50000L + run).treeRun();
        for (int run = 0; run < 180 && wrong == 0; run++) new ModelTest(90000L + run).fullRun(run % 6);
        allShortTexts();
        System.out.println(calls + " calls compared, " + wrong + " wrong");
        if (wrong != 0) System.exit(1);
    }

    /** A generator of its own, so that every run is the same on every machine. */
    private int below(int bound) {
        seed = seed * 6364136223846793005L + 1442695040888963407L;
        return (int) ((seed >>> 33) % bound);
    }

    private void start() {
        program = new FactorBranches();
        model = new PlainModel();
        log = new StringBuilder();
        used = 0;
    }

    /** Fills the words in one of several ways, and then asks. */
    private void mixedRun(int alphabet) {
        start();
        int density = 1 + below(40);
        if (below(8) > 0) call(0, 0, 0);
        for (int turn = 0; turn < MOST_CALLS && wrong == 0; turn++) {
            int dice = below(100);
            if (dice < density) call(1, below(alphabet), 0);
            else if (dice < density + 1) call(0, 0, 0);
            else if (dice < density + 12) call(9, sign(alphabet), 0);
            else if (dice < density + 14) call(2, 0, 0);
            else if (dice < density + 15) call(3, below(Math.max(1, model.count(1))), 0);
            else if (dice < density + 16) call(4, below(3), 0);
            else ask(alphabet);
        }
    }

    /** Many short branches, up to the greatest number of versions. */
    private void treeRun() {
        start();
        call(0, 0, 0);
        for (int turn = 1; turn < MOST_CALLS && wrong == 0; turn++) {
            int dice = below(100);
            if (turn % 60 == 59) repeatInNewBranch();
            else if (dice < 64) call(1, below(2), 0);
            else if (dice < 66) call(0, 0, 0);
            else if (dice < 70) call(3, below(model.count(1) + 1), 0);
            else if (dice < 75) call(4, below(20), 0);
            else if (dice < 82) call(9, "aabb/".charAt(below(5)), 0);
            else if (dice < 84) call(2, 0, 0);
            else if (dice < 88) call(5, below(model.count(1) + 1), below(7));
            else if (dice < 92) call(6, below(model.count(1) + 1), below(model.count(1) + 1));
            else if (dice < 96) call(7, below(model.count(1) + 1), below(model.count(1) + 1));
            else ask(2);
        }
    }

    /** The pad is filled by one call here, so that few calls make many versions. */
    private void repeatInNewBranch() {
        call(22, model.count(4) - 1, 0);
        call(3, 1, 0);
        call(2, 0, 0);
    }

    /** Words with as many letters as there can be, of a regular build, and then questions alone. */
    private void fullRun(int build) {
        start();
        int alphabet = build == 0 ? 1 : 2 + below(3);
        int period = 2 + below(9);
        int words = below(2) == 0 ? 1 : 1 + below(6);
        call(0, 0, 0);
        for (int i = 0; i < 60; i++) {
            if (i > 0 && words > 1 && below(60) < words) call(0, 0, 0);
            call(1, builtLetter(build, i, alphabet, period), 0);
        }
        if (below(2) == 0) call(1, 0, 0);
        for (int turn = 0; turn < MOST_CALLS && wrong == 0; turn++) {
            if (below(8) == 0) call(9, 'a' + below(alphabet), 0);
            else if (below(30) == 0) call(4, below(3), 0);
            else ask(alphabet);
        }
    }

    private int builtLetter(int build, int index, int alphabet, int period) {
        switch (build) {
            case 0: return index == 40 && period == 2 ? 1 : 0;
            case 1: return index % period % alphabet;
            case 2: return Integer.bitCount(index) % 2;
            case 3: return (int) Math.floor((index + 2) * 0.6180339887) - (int) Math.floor((index + 1) * 0.6180339887);
            case 4: return below(10) == 0 ? below(alphabet) : 0;
            default: return below(alphabet);
        }
    }

    private static void allShortTexts() {
        for (int length = 1; length <= 7 && wrong == 0; length++) {
            int texts = (int) Math.pow(3, length);
            for (int text = 0; text < texts && wrong == 0; text++) new ModelTest(text).askAll(text, length);
        }
    }

    /** A text of a, b and "/", by its number to the base 3; then every question about it. */
    private void askAll(int number, int length) {
        build(number, length);
        for (int what = 0; what < 7; what++) call(28, what, 0);
        for (int index = 0; index < model.count(4); index++) {
            for (int what = 0; what < 7; what++) call(21, index, what);
            for (int letter = 0; letter < 3; letter++) call(23, index, letter);
        }
        build(number, length);
        for (int k = 0; k <= model.factors(1, 0); k++) {
            call(19, 1, k);
            call(19, 2, k);
            for (int what = 0; what < 4; what++) call(14, what, 0);
            call(20, 0, 0);
        }
        for (int set = 0; set < 1 << model.count(2); set++) {
            build(number, length);
            call(25, set, 0);
            comparePads();
            for (int least = 1; least < 4; least++) {
                call(24, set, least);
                comparePads();
            }
        }
        build(number, length);
        for (int letters = 1; letters < 4; letters++) {
            call(26, letters, 0);
            comparePads();
        }
        call(27, 0, 0);
        if (used >= MOST_CALLS) throw new IllegalStateException("too many calls on one object");
    }

    private void build(int number, int length) {
        if (used >= MOST_CALLS) throw new IllegalStateException("too many calls on one object");
        start();
        call(0, 0, 0);
        int rest = number;
        for (int i = 0; i < length; i++) {
            int digit = rest % 3;
            rest /= 3;
            if (digit == 2) call(0, 0, 0);
            else call(1, digit, 0);
        }
    }

    private int sign(int alphabet) {
        int dice = below(30);
        if (dice == 0) return 33 + below(94);
        if (dice < 4) return '/';
        return 'a' + below(alphabet);
    }

    private int odd() {
        return ODD[below(ODD.length)];
    }

    /** An argument that is mostly in range. */
    private int about(int bound) {
        int dice = below(12);
        if (dice == 0) return odd();
        if (dice == 1) return -1;
        return below(bound + 1);
    }

    private void ask(int alphabet) {
        int kind = 3 + below(KINDS - 3);
        int versions = Math.max(1, model.count(1));
        switch (kind) {
            case 3: if (below(6) == 0) call(3, about(versions), 0); break;
            case 4: if (below(6) == 0) call(4, about(4), 0); break;
            case 5: call(5, about(versions), about(5)); break;
            case 6: case 7: call(kind, about(versions), about(versions)); break;
            case 8: call(8, about(6), about(30)); break;
            case 9: call(9, below(5) == 0 ? odd() : sign(alphabet), 0); break;
            case 10: if (below(4) == 0) call(10, 0, 0); break;
            case 11: call(11, about(60), 0); break;
            case 12: call(12, about(1), 0); break;
            case 13: call(14, 3, 0); break;
            case 14: call(14, about(3), 0); break;
            case 15: call(15, about(2), 0); break;
            case 16: call(16, about(Math.max(1, model.pad(-1))), 0); break;
            case 17: call(17, 0, 0); break;
            case 18: call(18, about(5), about(10)); break;
            case 19: call(19, about(3), about(model.factors(1, 0))); break;
            case 20: call(20, 0, 0); break;
            case 21: call(21, about(model.count(4)), about(6)); break;
            case 22: call(22, about(model.count(4)), 0); break;
            case 23: call(23, about(model.count(4)), about(alphabet)); break;
            case 24: call(24, about((1 << model.count(2)) - 1), about(2)); break;
            case 25: call(25, about((1 << model.count(2)) - 1), 0); break;
            case 26: call(26, about(8), 0); break;
            case 27: call(27, 0, 0); break;
            default: call(28, about(6), 0); break;
        }
        if (below(4) == 0) comparePads();
    }

    private void comparePads() {
        int length = model.pad(-1);
        for (int i = -1; i <= length; i++) call(11, i, 0);
    }

    private void call(int kind, int a, int b) {
        if (used == MOST_CALLS) return;
        used++;
        int want = ofModel(kind, a, b);
        int got = 0;
        String failure = "";
        try {
            got = ofProgram(kind, a, b);
        } catch (RuntimeException e) {
            failure = ", it threw " + e;
        }
        calls++;
        log.append(kind).append('(').append(a).append(", ").append(b).append(") = ").append(want).append('\n');
        if (got != want || !failure.isEmpty()) {
            wrong++;
            if (wrong < 3) System.out.println(log + "the last answered " + got + failure);
        }
    }

    private int ofProgram(int kind, int a, int b) {
        FactorBranches x = program;
        switch (kind) {
            case 0: return x.begin();
            case 1: return x.append(a);
            case 2: return x.load();
            case 3: return x.go(a);
            case 4: return x.back(a);
            case 5: return x.version(a, b);
            case 6: return x.meet(a, b);
            case 7: return x.more(a, b);
            case 8: return x.letter(a, b);
            case 9: return x.say(a);
            case 10: return x.wipe();
            case 11: return x.pad(a);
            case 12: return x.fault(a);
            case 14: return x.occurs(a);
            case 15: return x.end(a);
            case 16: return x.matches(a);
            case 17: return x.parts();
            case 18: return x.factors(a, b);
            case 19: return x.kth(a, b);
            case 20: return x.before();
            case 21: return x.group(a, b);
            case 22: return x.spell(a);
            case 23: return x.step(a, b);
            case 24: return x.common(a, b);
            case 25: return x.unique(a);
            case 26: return x.absent(a);
            case 27: return x.minimal();
            default: return x.count(a);
        }
    }

    private int ofModel(int kind, int a, int b) {
        PlainModel x = model;
        switch (kind) {
            case 0: return x.begin();
            case 1: return x.append(a);
            case 2: return x.load();
            case 3: return x.go(a);
            case 4: return x.back(a);
            case 5: return x.version(a, b);
            case 6: return x.meet(a, b);
            case 7: return x.more(a, b);
            case 8: return x.letter(a, b);
            case 9: return x.say(a);
            case 10: return x.wipe();
            case 11: return x.pad(a);
            case 12: return x.fault(a);
            case 14: return x.occurs(a);
            case 15: return x.end(a);
            case 16: return x.matches(a);
            case 17: return x.parts();
            case 18: return x.factors(a, b);
            case 19: return x.kth(a, b);
            case 20: return x.before();
            case 21: return x.group(a, b);
            case 22: return x.spell(a);
            case 23: return x.step(a, b);
            case 24: return x.common(a, b);
            case 25: return x.unique(a);
            case 26: return x.absent(a);
            case 27: return x.minimal();
            default: return x.count(a);
        }
    }
}
