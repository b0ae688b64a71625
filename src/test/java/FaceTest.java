import java.lang.reflect.Constructor;
import java.lang.reflect.Field;
import java.lang.reflect.Method;
import java.lang.reflect.Modifier;
import java.util.ArrayList;
import java.util.Arrays;
import java.util.Collections;
import java.util.List;

/** The face of the class is the document's, and nothing more. Promises 1 to 30. */
public final class FaceTest {
    private static final String[] FACE = {
        "int ask()", "int bring(int)", "int coals(int)", "int colder(int,int)", "int count(int)", "int day()",
        "boolean down(int,int)", "int feed(long,long,long)", "int full()", "int guest(int,int)",
        "boolean hear(int,boolean)", "int hole(int,int)", "int judged(int)", "int lasts(int)", "int line(int,int)",
        "int lodging(int,int)", "boolean mark(int,boolean)", "int note(int,int)", "int pairs()", "int refuge(int)",
        "int rests(int,int,int,int) throws java.util.NoSuchElementException", "int sacks(int,int)", "int safe(int)",
        "int terrace()", "boolean through(int,int)", "boolean undo()", "boolean up(int)", "int winter()",
        "int winters(int,int,int)"};

    public static void main(String[] args) {
        Class<?> c = CoalHoles.class;
        Check.due("public final", c.getModifiers() & (Modifier.PUBLIC | Modifier.FINAL),
            Modifier.PUBLIC | Modifier.FINAL);
        Check.due("no package", c.getPackageName().isEmpty(), true);
        List<String> found = new ArrayList<>();
        List<String> hidden = new ArrayList<>();
        for (Method m : c.getDeclaredMethods()) {
            if (Modifier.isPrivate(m.getModifiers())) {
                hidden.add(m.getName());
            } else {
                found.add(m.toString().replace("public ", "").replace("CoalHoles.", ""));
            }
        }
        for (Method m : c.getDeclaredMethods()) {
            if (!Modifier.isPrivate(m.getModifiers())) {
                Check.due("no private method is called " + m.getName(), hidden.contains(m.getName()), false);
            }
        }
        List<String> due = new ArrayList<>(Arrays.asList(FACE));
        Collections.sort(found);
        Collections.sort(due);
        if (!found.equals(due)) {
            System.out.println("found: " + found);
        }
        Check.due("the methods", found.equals(due), true);
        for (Field f : c.getDeclaredFields()) {
            Check.due("a field that can be seen: " + f.getName(), !Modifier.isPrivate(f.getModifiers()),
                f.getName().equals("NONE"));
        }
        Constructor<?>[] constructors = c.getDeclaredConstructors();
        Check.due("constructors", constructors.length, 1);
        Check.due("public constructor", Modifier.isPublic(constructors[0].getModifiers()), true);
        Check.due("without parameters", constructors[0].getParameterCount(), 0);
        Check.due("classes inside, with the outer one", c.getDeclaredClasses().length < 12, true);
        for (Class<?> inside : c.getDeclaredClasses()) {
            Check.due("static: " + inside.getName(), Modifier.isStatic(inside.getModifiers()), true);
            int fields = 0;
            for (Field f : inside.getDeclaredFields()) {
                fields += Modifier.isStatic(f.getModifiers()) ? 0 : 1;
            }
            Check.due("at most 20 fields: " + inside.getName(), fields <= 20, true);
        }
        Check.end();
    }
}
