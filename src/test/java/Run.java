import java.lang.reflect.InvocationTargetException;
import java.lang.reflect.Method;
import java.util.HashMap;
import java.util.Map;

/** A new object of the program, with the plain model beside it. */
final class Run {
    private static final int MOST_CALLS = 512;
    private static final Map<String, Method> OF_PROGRAM = methods(FactorBranches.class);
    private static final Map<String, Method> OF_MODEL = methods(PlainModel.class);

    private final FactorBranches program = new FactorBranches();
    private final PlainModel model = new PlainModel();
    private int calls = 0;
    private String difference = "";

    Run(Calls story) {
        for (Calls.Call call : story.list()) {
            int answer = same(call.name(), call.arguments());
            if (answer < 0) difference(call + " was to lead to a state and answered " + answer);
        }
    }

    private static Map<String, Method> methods(Class<?> owner) {
        Map<String, Method> found = new HashMap<>();
        for (Method method : owner.getDeclaredMethods()) found.put(method.getName(), method);
        return found;
    }

    /** The first difference between the two, or nothing. */
    String difference() {
        return difference;
    }

    private void difference(String text) {
        if (difference.isEmpty()) difference = text;
    }

    int ofProgram(String name, int... arguments) {
        calls++;
        // The document says nothing about what an object answers then.
        if (calls > MOST_CALLS) difference("the test has more than 512 calls on one object");
        return answer(OF_PROGRAM, program, name, arguments);
    }

    int ofModel(String name, int... arguments) {
        return answer(OF_MODEL, model, name, arguments);
    }

    int same(String name, int... arguments) {
        int want = ofModel(name, arguments);
        int got = ofProgram(name, arguments);
        if (got != want) difference(new Calls.Call(name, arguments) + " answered " + got + ", due is " + want);
        return want;
    }

    private int answer(Map<String, Method> methods, Object target, String name, int... arguments) {
        Object[] boxed = new Object[arguments.length];
        for (int i = 0; i < boxed.length; i++) boxed[i] = arguments[i];
        try {
            return (int) methods.get(name).invoke(target, boxed);
        } catch (InvocationTargetException e) {
            difference(new Calls.Call(name, arguments) + " threw " + e.getCause());
            return Integer.MIN_VALUE;
        } catch (IllegalAccessException e) {
            throw new IllegalStateException(e);
        }
    }

    /** Asks about everything that an object holds, and then goes on with it. */
    void exam() {
        for (int what = 0; what < 7; what++) same("count", what);
        examPad();
        examWords();
        int last = ofModel("count", 1) - 1;
        int[] versions = {0, 1, ofModel("count", 0), last, last + 1};
        for (int version : versions) for (int what = 0; what < 6; what++) same("version", version, what);
        same("factors", 1, 0);
        same("minimal");
        for (int what = 0; what < 7; what++) same("group", ofModel("count", 4) - 1, what);
        same("load");
        same("append", 1);
        same("begin");
        same("go", 0);
        same("count", 1);
    }

    private void examPad() {
        int length = same("pad", -1);
        for (int i = 0; i <= length; i++) same("pad", i);
        same("fault", 0);
        same("fault", 1);
        for (int what = 0; what < 4; what++) same("occurs", what);
        same("end", 0);
        same("matches", 1);
        same("parts");
        same("before");
    }

    private void examWords() {
        int words = ofModel("count", 2);
        for (int word = 0; word <= words; word++) {
            int length = same("letter", word, -1);
            for (int i = 0; i <= length; i++) same("letter", word, i);
        }
    }
}
