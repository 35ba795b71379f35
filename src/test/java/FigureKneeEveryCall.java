import java.lang.reflect.InvocationTargetException;
import java.lang.reflect.Method;
import java.lang.reflect.Modifier;
import java.util.ArrayList;
import java.util.Arrays;
import java.util.List;
import java.util.NoSuchElementException;
import java.util.Set;

/**
 * Every call of the face with numbers at, beyond and far beyond all bounds, on objects of several kinds:
 * nothing is thrown but by led; a call answers that it is refused just if TROUBLE has a number;
 * a refused call changes nothing.
 */
public final class FigureKneeEveryCall {
    private static final int[] NUMBERS = {Integer.MIN_VALUE, -1, 0, 1, 3, 4, 5, 9, 10, 20, 21, 60, 61, 99, 100, 200, 201,
        999, 65536, 65537, 2000000000, 2000000001, Integer.MAX_VALUE};
    private static final int[] FEWER = {Integer.MIN_VALUE, -1, 0, 1, 4, 5, 61, 100, 65537, Integer.MAX_VALUE};
    /** Calls of which no number of TROUBLE is told. */
    private static final Set<String> UNNUMBERED = Set.of("feed", "fault", "where", "led", "size", "trouble");

    private static final Check check = new Check();

    public static void main(String[] args) throws IllegalAccessException {
        List<Bounds.Maker> makers = List.of(FigureKnee::new, FigureKneeEveryCall::faulty, FigureKneeEveryCall::alone,
            Bounds::busy);
        for (Method method : FigureKnee.class.getDeclaredMethods()) {
            if (Modifier.isPublic(method.getModifiers())) {
                check.sentence(method.getName());
                for (Bounds.Maker maker : makers) {
                    String twin = Picture.whole(maker.make());
                    for (Object[] row : rows(method)) {
                        callOne(method, row, maker, twin);
                    }
                }
            }
        }
        check.end();
    }

    private static FigureKnee faulty() {
        FigureKnee x = new FigureKnee();
        Check.pier(x, Bounds.FOUR + ";contract duo every 2");
        return x;
    }

    private static FigureKnee alone() {
        return Check.of("pier words 2 dumb 100;pair a swinging figure 1 step 0");
    }

    /** All rows of arguments that a method is called with. */
    private static List<Object[]> rows(Method method) {
        Class<?>[] types = method.getParameterTypes();
        List<Object[]> rows = new ArrayList<>();
        rows.add(new Object[types.length]);
        for (int i = 0; i < types.length; i++) {
            List<Object[]> longer = new ArrayList<>();
            for (Object[] row : rows) {
                for (Object value : values(types, i)) {
                    Object[] next = row.clone();
                    next[i] = value;
                    longer.add(next);
                }
            }
            rows = longer;
        }
        return rows;
    }

    private static List<Object> values(Class<?>[] types, int i) {
        if (types[i] == boolean.class) {
            return List.of(false, true);
        }
        if (types.length == 5) {
            return List.of(Integer.MIN_VALUE, -1, 0x3b20613b);
        }
        List<Object> values = new ArrayList<>();
        for (int number : types.length <= 2 ? NUMBERS : FEWER) {
            values.add(number);
        }
        return values;
    }

    private static void callOne(Method method, Object[] row, Bounds.Maker maker, String twin) throws IllegalAccessException {
        FigureKnee x = maker.make();
        String call = method.getName() + Arrays.toString(row);
        x.pier(-1);
        long answer;
        try {
            answer = number(method.invoke(x, row));
        } catch (InvocationTargetException e) {
            boolean isLed = method.getName().equals("led") && e.getCause().getClass() == NoSuchElementException.class;
            check.due(call + " throws " + e.getCause(), isLed ? 1 : 0, 1);
            return;
        }
        int trouble = x.trouble();
        if (UNNUMBERED.contains(method.getName())) {
            check.due("trouble() behind " + call, trouble, 2);
            return;
        }
        check.due("is refused: " + call, trouble != 0 ? 1 : 0, answer == refusal(method) ? 1 : 0);
        if (trouble != 0 && trouble != 4) {
            check.due("all behind " + call, Picture.whole(x), twin);
        }
    }

    private static long number(Object answer) {
        return answer instanceof Boolean b ? b ? 1 : 0 : ((Number) answer).longValue();
    }

    private static long refusal(Method method) {
        return switch (method.getName()) {
            case "net" -> -1000000;
            case "talks" -> -100;
            case "step", "undo", "back" -> 0;
            default -> -1;
        };
    }
}
