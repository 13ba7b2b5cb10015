import java.lang.reflect.Array;
import java.lang.reflect.Field;
import java.lang.reflect.Modifier;
import java.util.IdentityHashMap;
import java.util.Map;

/** All that a yard holds, field by field, as one text; no call is made for it. */
final class State {
    private final StringBuilder text = new StringBuilder();
    private final Map<Object, Integer> seen = new IdentityHashMap<>();

    static String of(SpoolwrightYard yard) {
        State state = new State();
        state.add(yard);
        return state.text.toString();
    }

    private void add(Object held) {
        if (held == null || held instanceof Number || held instanceof Boolean || held instanceof Character
                || held instanceof String) {
            text.append(held).append(' ');
        } else if (seen.containsKey(held)) {
            text.append('#').append(seen.get(held)).append(' ');
        } else {
            seen.put(held, seen.size());
            addInside(held);
        }
    }

    private void addInside(Object held) {
        text.append("\n{");
        if (held.getClass().isArray()) {
            for (int i = 0; i < Array.getLength(held); i++) {
                add(Array.get(held, i));
            }
        } else {
            for (Field field : held.getClass().getDeclaredFields()) {
                if (!Modifier.isStatic(field.getModifiers())) {
                    text.append(field.getName()).append('=');
                    add(valueOf(field, held));
                }
            }
        }
        text.append('}');
    }

    private static Object valueOf(Field field, Object owner) {
        try {
            field.setAccessible(true);
            return field.get(owner);
        } catch (IllegalAccessException e) {
            throw new IllegalStateException(e);
        }
    }
}
