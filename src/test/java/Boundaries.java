import java.lang.reflect.InvocationTargetException;
import java.lang.reflect.Method;
import java.util.ArrayList;
import java.util.Comparator;
import java.util.List;

/**
 * Boundary cases, one method each, named promiseN_ and the boundary: run one by one, and told by that name when
 * an answer is not as due.
 */
abstract class Boundaries {
    static final int LOWEST = Integer.MIN_VALUE;
    static final int HIGHEST = Integer.MAX_VALUE;

    private Due due;
    private String name;
    private int looks;

    /** The promises, by number, that the methods are about: one for each method. */
    final List<Integer> run(Due into) {
        due = into;
        List<Method> methods = new ArrayList<>();
        for (Method method : getClass().getDeclaredMethods()) {
            if (method.getName().startsWith("promise")) methods.add(method);
        }
        methods.sort(Comparator.comparingInt(Boundaries::promiseOf).thenComparing(Method::getName));
        List<Integer> promises = new ArrayList<>();
        for (Method method : methods) {
            runOne(method);
            promises.add(promiseOf(method));
        }
        return promises;
    }

    private static int promiseOf(Method method) {
        String name = method.getName();
        return Integer.parseInt(name.substring("promise".length(), name.indexOf('_')));
    }

    private void runOne(Method method) {
        name = method.getName();
        looks = 0;
        try {
            method.invoke(this);
        } catch (InvocationTargetException thrown) {
            due.fails(name + " threw " + thrown.getCause());
        } catch (IllegalAccessException thrown) {
            due.fails(name + " is not to be called: " + thrown);
        }
        if (looks == 0) due.fails(name + " looked at nothing");
    }

    final void is(int got, int want) {
        is("", got, want);
    }

    final void is(String what, int got, int want) {
        looks++;
        due.is(name + (what.isEmpty() ? ", look " + looks : ", " + what), got, want);
    }

    static IntoTheCorner yard() {
        return new IntoTheCorner();
    }

    static IntoTheCorner house(String... texts) {
        return Due.houseOf(texts);
    }

    /** An object with a house and a PLAN: ROOM, HOUR, ROOM, HOUR .. */
    static IntoTheCorner planned(String house, int... roomsAndHours) {
        IntoTheCorner x = Due.houseOf(house);
        for (int i = 0; i < roomsAndHours.length; i += 2) {
            if (x.step(roomsAndHours[i], roomsAndHours[i + 1]) != i / 2 + 1) {
                throw new IllegalStateException("not a step: " + roomsAndHours[i] + " at " + roomsAndHours[i + 1]);
            }
        }
        return x;
    }

    static int read(String house) {
        return Due.house(new IntoTheCorner(), house);
    }

    static int allRefusals(IntoTheCorner x) {
        int sum = 0;
        for (int what = 11; what <= 16; what++) sum += x.count(what);
        return sum;
    }
}
