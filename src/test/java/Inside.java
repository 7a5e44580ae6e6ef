import java.lang.reflect.Field;
import java.util.List;

/** Changes an object behind its back, for the few sentences of the document that no run of 512 calls reaches. */
final class Inside {
    private Inside() {
    }

    /** How the state is held is free, so a class that holds it otherwise is not wrong; the test says so then. */
    static boolean isKnown(CardPayments x) {
        for (Field field : x.getClass().getDeclaredFields()) {
            if (field.getName().equals("world")) {
                return true;
            }
        }
        Due.notLookedAt("the class holds its state otherwise than Inside knows");
        return false;
    }

    static Object card(CardPayments x, int number) {
        return list(part(x, "world"), "cards").get(number);
    }

    static Object terminal(CardPayments x, int number) {
        return list(part(x, "world"), "terminals").get(number);
    }

    static List<Object> debits(CardPayments x) {
        return list(part(x, "host"), "debits");
    }

    static List<Object> purchases(CardPayments x) {
        return list(part(x, "world"), "purchases");
    }

    static List<Object> answers(CardPayments x) {
        return list(part(x, "world"), "answers");
    }

    @SuppressWarnings("unchecked")
    static List<Object> list(Object owner, String name) {
        return (List<Object>) part(owner, name);
    }

    static Object part(Object owner, String name) {
        try {
            return field(owner, name).get(owner);
        } catch (ReflectiveOperationException problem) {
            throw new IllegalStateException(problem);
        }
    }

    static void set(Object owner, String name, long value) {
        try {
            Field field = field(owner, name);
            if (field.getType() == long.class) {
                field.setLong(owner, value);
            } else {
                field.setInt(owner, (int) value);
            }
        } catch (ReflectiveOperationException problem) {
            throw new IllegalStateException(problem);
        }
    }

    static void raise(Object owner, String name) {
        set(owner, name, ((Number) part(owner, name)).longValue() + 1000);
    }

    private static Field field(Object owner, String name) throws NoSuchFieldException {
        Field field = owner.getClass().getDeclaredField(name);
        field.setAccessible(true);
        return field;
    }
}
