import java.lang.reflect.InvocationTargetException;
import java.lang.reflect.Method;
import java.util.HashMap;
import java.util.Map;

/** Calls of the face by name, with answers as texts: a number, or throws. and the exception's name. */
final class Calls {
    private static final Map<String, Method> FACE = new HashMap<>();

    static {
        for (Method method : TableColumnBalancer.class.getDeclaredMethods()) {
            if (java.lang.reflect.Modifier.isPublic(method.getModifiers())) {
                FACE.put(method.getName(), method);
            }
        }
    }

    private Calls() {
    }

    static String answer(TableColumnBalancer x, String name, int... arguments) {
        Method method = FACE.get(name);
        if (method == null || method.getParameterCount() != arguments.length) {
            throw new IllegalArgumentException("no such call: " + name);
        }
        Object[] values = new Object[arguments.length];
        for (int i = 0; i < values.length; i++) {
            boolean truth = method.getParameterTypes()[i] == boolean.class;
            values[i] = truth ? (Object) (arguments[i] != 0) : (Object) arguments[i];
        }
        try {
            return String.valueOf(method.invoke(x, values));
        } catch (InvocationTargetException e) {
            return nameOf(e.getCause());
        } catch (IllegalAccessException e) {
            throw new IllegalStateException(e);
        }
    }

    /** A machine's exception keeps its own name or is told by its message, so that it never passes for a thrown one. */
    private static String nameOf(Throwable thrown) {
        String note = thrown.getMessage() == null ? "" : " (" + thrown.getMessage() + ")";
        return "throws." + thrown.getClass().getSimpleName() + note;
    }

    /** The int by which one to four characters are appended. */
    static int packed(String text) {
        int value = 0;
        for (int i = 0; i < text.length(); i++) {
            value = value << 8 | text.charAt(i);
        }
        return value;
    }

    /** All that an object holds, also what only changes bring to light; the object is spoilt by it. */
    static String everything(TableColumnBalancer x, boolean withText) {
        StringBuilder all = new StringBuilder(fingerprint(x, withText));
        if (withText) {
            String executed = answer(x, "execute");
            all.append("\ntext ").append(executed).append(' ').append(x.errorPosition()).append(fingerprint(x, false));
        }
        for (int cell = 0; cell < x.count(2); cell++) {
            // The break behind the last word acts only when another word follows.
            all.append("\nword ").append(answer(x, "addWord", cell, 1, 0));
        }
        all.append(fingerprint(x, false)).append(clips(x));
        all.append("\nrestored ").append(answer(x, "restore")).append(fingerprint(x, false));
        return all.toString();
    }

    private static String clips(TableColumnBalancer x) {
        StringBuilder all = new StringBuilder("\nclips");
        while (x.count(2) > 0) {
            x.removeCell(0);
        }
        x.setColumns(4);
        while (x.count(1) < 4) {
            x.addRow();
        }
        for (int clip = 0; clip < 2; clip++) {
            for (int place = 0; place < 3; place++) {
                all.append(' ').append(answer(x, "paste", clip, place, clip, place));
            }
        }
        all.append(fingerprint(x, false));
        int first = x.count(2);
        for (int kind = 0; kind < 6; kind++) {
            x.addCell(2 + kind / 4, kind % 4, 1, kind);
        }
        for (int clip = 0; clip < 2; clip++) {
            for (int asked = 0; asked < 24; asked++) {
                all.append(' ').append(answer(x, "copyTo", clip, asked / 6, first + asked % 6));
            }
        }
        return all.toString();
    }

    /** All of the state that can be asked for, so that two states can be compared. */
    static String fingerprint(TableColumnBalancer x, boolean withText) {
        StringBuilder all = new StringBuilder();
        int columns = x.count(0);
        int rows = x.count(1);
        int cells = x.count(2);
        all.append(columns).append(' ').append(rows).append(' ').append(cells);
        if (withText) {
            all.append(" text ").append(x.append(0)).append(' ').append(x.errorPosition());
        }
        readSpecifications(x, columns, all);
        for (int cell = 0; cell < cells; cell++) {
            all.append("\ncell");
            for (int what = 0; what <= 6; what++) {
                all.append(' ').append(x.property(cell, what));
            }
            for (int width = x.property(cell, 5); width <= 99; width += 3) {
                all.append(' ').append(x.cellHeight(cell, width));
            }
        }
        all.append("\ncolumns");
        for (int column = 0; column < columns; column++) {
            for (int guess = 0; guess < 4; guess++) {
                all.append(' ').append(x.guess(guess, column));
            }
            all.append(' ').append(x.columnWidth(column, 1)).append(' ').append(x.columnWidth(column, 2));
            all.append(' ').append(answer(x, "autoWidth", column)).append(' ').append(answer(x, "bestWidth", column));
        }
        all.append("\nheights ").append(answer(x, "autoHeight"));
        for (int width = 8; width <= 36; width++) {
            all.append(' ').append(answer(x, "heightAt", width));
        }
        return all.toString();
    }

    /** Measures and columns can be read only by setting them, so they are put back. */
    private static void readSpecifications(TableColumnBalancer x, int columns, StringBuilder all) {
        all.append("\nmeasures");
        int[] some = {8, 0, 0};
        for (int what = 0; what < 3; what++) {
            int previous = x.setMeasure(what, some[what]);
            x.setMeasure(what, previous);
            all.append(' ').append(previous);
        }
        for (int column = 0; column < columns; column++) {
            int previous = x.setColumn(column, 0, 0);
            int type = previous == 0 ? 0 : previous <= 136 ? 1 : 2;
            x.setColumn(column, type, previous - 100 * type);
            all.append(' ').append(previous);
        }
    }
}
