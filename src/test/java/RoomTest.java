import java.lang.reflect.Array;
import java.lang.reflect.Field;
import java.lang.reflect.Modifier;
import java.util.Collections;
import java.util.IdentityHashMap;
import java.util.Set;

/** What an object holds stays small, and no call adds to it: all rows are made with the object. */
public final class RoomTest {
    private static final int ELEMENTS_MOST = 14000;
    private static final int OBJECTS_MOST = 100;

    private int objects;
    private int elements;
    private final Set<Object> seen = Collections.newSetFromMap(new IdentityHashMap<>());

    public static void main(String[] args) throws IllegalAccessException {
        Check check = new Check("room");
        DockCall dock = new DockCall();
        RoomTest fresh = new RoomTest();
        fresh.measure(dock);
        check.is("objects, " + fresh.objects, true, fresh.objects <= OBJECTS_MOST);
        check.is("elements, " + fresh.elements, true, fresh.elements <= ELEMENTS_MOST);
        useMuch(dock);
        RoomTest used = new RoomTest();
        used.measure(dock);
        check.is("objects behind many calls", fresh.objects, used.objects);
        check.is("elements behind many calls", fresh.elements, used.elements);
        check.end();
    }

    private static void useMuch(DockCall dock) {
        for (int i = 0; i < 24; i++) {
            dock.man(15);
        }
        for (int i = 0; i < 10; i++) {
            dock.ship();
            for (int h = 0; h < 4; h++) {
                dock.hatch(i, 2000, h, true);
            }
        }
        for (int i = 0; i < 100; i++) {
            Texts.agree(dock, "gang 1;first tons");
            dock.call(i & 15, i);
            dock.rule(i, i);
            dock.want(8, 4);
            dock.plan(1 + i % 8);
            dock.earned(i % 24, i, i);
        }
    }

    private void measure(Object object) throws IllegalAccessException {
        if (object == null || object instanceof String || object instanceof Enum<?> || !seen.add(object)) {
            return;
        }
        objects++;
        if (object.getClass().isArray()) {
            elements += Array.getLength(object);
            return;
        }
        for (Field field : object.getClass().getDeclaredFields()) {
            if (Modifier.isStatic(field.getModifiers())) {
                continue;
            }
            elements++;
            if (!field.getType().isPrimitive()) {
                field.setAccessible(true);
                measure(field.get(object));
            }
        }
    }
}
