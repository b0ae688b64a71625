import java.lang.reflect.InvocationTargetException;
import java.lang.reflect.Method;
import java.lang.reflect.Modifier;
import java.nio.file.Files;
import java.nio.file.Path;
import java.util.ArrayList;
import java.util.HashSet;
import java.util.List;
import java.util.Set;

/** README.md tells every call of the face, and the run that it shows answers as it says. Promises 1 to 30. */
public final class ReadmeTest {
    private static final CoalHoles SHOWN = new CoalHoles();
    private static final Set<String> MADE = new HashSet<>();

    private ReadmeTest() {
    }

    public static void main(String[] args) throws Exception {
        List<String> page = Files.readAllLines(Path.of("README.md"));
        List<String> rows = new ArrayList<>();
        boolean isRun = false;
        for (String line : page) {
            if (line.startsWith("```")) {
                isRun = line.equals("```run");
            } else if (isRun) {
                make(line);
            } else if (line.startsWith("| ")) {
                rows.add(line);
            }
        }
        everyCallIsTold(rows);
        Check.end();
    }

    private static void make(String line) throws Exception {
        int is = line.lastIndexOf(" = ");
        String call = line.substring(0, is);
        String want = line.substring(is + 3);
        String got = call.startsWith("feed \"") ? fed(call.substring(6, call.length() - 1)) : answer(call);
        Check.due(call + ", " + got + " for " + want, got.equals(want), true);
    }

    private static String fed(String text) {
        MADE.add("feed");
        return String.valueOf(Check.feed(SHOWN, text));
    }

    private static String answer(String call) throws Exception {
        String name = call.substring(0, call.indexOf('('));
        String inside = call.substring(call.indexOf('(') + 1, call.length() - 1);
        String[] given = inside.isEmpty() ? new String[0] : inside.split(", ");
        Method method = named(name);
        Object[] values = new Object[given.length];
        for (int i = 0; i < given.length; i++) {
            if (method.getParameterTypes()[i] == boolean.class) {
                values[i] = Boolean.valueOf(given[i]);
            } else {
                values[i] = Integer.valueOf(given[i]);
            }
        }
        MADE.add(name);
        try {
            return String.valueOf(method.invoke(SHOWN, values));
        } catch (InvocationTargetException e) {
            return e.getCause().getClass().getSimpleName();
        }
    }

    private static Method named(String name) {
        for (Method method : CoalHoles.class.getDeclaredMethods()) {
            if (method.getName().equals(name)) {
                return method;
            }
        }
        throw new IllegalArgumentException(name);
    }

    private static void everyCallIsTold(List<String> rows) {
        // The constructor is the first promise, and its row has no method.
        int told = 1;
        for (Method method : CoalHoles.class.getDeclaredMethods()) {
            if (!Modifier.isPublic(method.getModifiers())) {
                continue;
            }
            String name = method.getName();
            Check.due("the run makes " + name, MADE.contains(name), true);
            for (String row : rows) {
                String[] cells = row.split("\\|");
                String call = cells.length > 2 ? cells[2].trim() : "";
                if (call.startsWith("`" + name + "(")) {
                    told++;
                    String inside = call.substring(call.indexOf('(') + 1, call.indexOf(')'));
                    int many = inside.isEmpty() ? 0 : inside.split(", ").length;
                    Check.due("what " + name + " is given", many, method.getParameterCount());
                }
            }
        }
        Check.due("promises told", told, 30);
    }
}
