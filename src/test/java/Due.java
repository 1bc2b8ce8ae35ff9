import java.lang.reflect.Method;
import java.util.Arrays;

/** Counts and prints the answers that are not as due, and makes rows for tests. */
final class Due {
    private final String name;
    private int asked = 0;
    private int wrong = 0;

    Due(String name) {
        this.name = name;
    }

    void is(String call, long got, long want) {
        asked++;
        if (got != want) {
            wrong++;
            System.out.println(name + ": " + call + " answered " + got + ", due is " + want);
        }
    }

    void alike(String call, String got, String want) {
        asked++;
        if (!got.equals(want)) {
            wrong++;
            System.out.println(name + ": " + call + " is\n" + got + "\ndue is\n" + want);
        }
    }

    boolean anyWrong() {
        return wrong > 0;
    }

    void end() {
        System.out.println(name + ": " + asked + " answers, " + wrong + " not as due");
        if (wrong > 0) {
            System.exit(1);
        }
    }

    /** The answer of a call that is told by its name. */
    static long call(Object of, String name, int... arguments) {
        Class<?>[] types = new Class<?>[arguments.length];
        Arrays.fill(types, int.class);
        try {
            Method method = of.getClass().getDeclaredMethod(name, types);
            return ((Number) method.invoke(of, Arrays.stream(arguments).boxed().toArray())).longValue();
        } catch (ReflectiveOperationException e) {
            throw new IllegalStateException(name + Arrays.toString(arguments), e);
        }
    }

    static void row(WinnersLeave x, int k, int lane, int... cells) {
        x.sheet(k, lane, cells.length);
        for (int i = 0; i < cells.length; i++) {
            x.put(k, i, cells[i]);
        }
    }

    static int harbour(WinnersLeave x, String text) {
        row(x, 3, 1, text.chars().toArray());
        return x.harbour(3, 1, 0, text.length());
    }

    /** A town told by a text; sheet 3 has nothing again. */
    static WinnersLeave town(String text) {
        WinnersLeave x = new WinnersLeave();
        harbour(x, text);
        x.lose(3);
        return x;
    }
}
