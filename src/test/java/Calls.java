import java.util.ArrayList;
import java.util.List;

/** Calls on a new object that lead to some state; every method gives the calls with more behind them. */
final class Calls {
    record Call(String name, int... arguments) {
        @Override
        public String toString() {
            StringBuilder text = new StringBuilder(name).append('(');
            for (int i = 0; i < arguments.length; i++) text.append(i == 0 ? "" : ", ").append(arguments[i]);
            return text.append(')').toString();
        }
    }

    private final List<Call> calls;

    Calls() {
        this(List.of());
    }

    private Calls(List<Call> calls) {
        this.calls = calls;
    }

    List<Call> list() {
        return calls;
    }

    Calls then(String name, int... arguments) {
        List<Call> longer = new ArrayList<>(calls);
        longer.add(new Call(name, arguments));
        return new Calls(longer);
    }

    Calls begin() {
        return then("begin");
    }

    Calls go(int version) {
        return then("go", version);
    }

    /** Goes on with letters, and a new word for each "/". */
    Calls grow(String text) {
        Calls longer = this;
        for (char c : text.toCharArray()) longer = c == '/' ? longer.begin() : longer.then("append", c - 'a');
        return longer;
    }

    Calls say(String text) {
        Calls longer = this;
        for (char c : text.toCharArray()) longer = longer.then("say", c);
        return longer;
    }

    /**
     * So many versions (at least 62), by few calls: branches of the letter a behind version 1, a word
     * without letters, which is the present version then; the pad is empty. Version 61 has 60 letters.
     */
    static Calls versions(int wanted) {
        Calls longer = new Calls().begin().say("a".repeat(60)).then("load");
        int made = 62;
        while (made < wanted) {
            int branch = Math.min(60, wanted - made);
            longer = longer.go(61).then("spell", branch - 1).go(1).then("load");
            made += branch;
        }
        return longer.go(1);
    }

    @Override
    public String toString() {
        StringBuilder text = new StringBuilder();
        for (Call call : calls) text.append(call).append(' ');
        return text.toString();
    }
}
