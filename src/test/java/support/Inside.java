import java.lang.reflect.Field;
import java.lang.reflect.Method;

/** Reaches into MineDesk for what no call of its face is known to lead to. */
final class Inside {
    private Inside() { }

    /** Whether make() comes to an end with this board, when it has put the mines so. */
    static boolean settles(int shape, int grade, String... rows) throws ReflectiveOperationException {
        MineDesk desk = new MineDesk();
        Object field = part(desk, "field"), maker = part(desk, "maker");
        int w = rows[0].length();
        call(field, "begin", w, rows.length, shape);
        for (int cell = 0; cell < w * rows.length; cell++) {
            call(field, "setMine", cell, rows[cell / w].charAt(cell % w) == 'x');
        }
        return (Boolean) call(maker, "settle", grade);
    }

    private static Object part(MineDesk desk, String name) throws ReflectiveOperationException {
        Field field = MineDesk.class.getDeclaredField(name);
        field.setAccessible(true);
        return field.get(desk);
    }

    private static Object call(Object part, String name, Object... arguments) throws ReflectiveOperationException {
        for (Method method : part.getClass().getDeclaredMethods()) {
            if (!method.getName().equals(name)) continue;
            method.setAccessible(true);
            return method.invoke(part, arguments);
        }
        throw new NoSuchMethodException(name);
    }
}
