import java.lang.reflect.Constructor;
import java.lang.reflect.Field;
import java.lang.reflect.Method;
import java.lang.reflect.Modifier;
import java.util.ArrayList;
import java.util.Collections;
import java.util.List;

/** The class has the face of the document and no other member that can be seen from outside. */
public final class FaceTest {
    private static final String[] FACE = {
        "public void begin(int,int) throws IllegalArgumentException",
        "public int touch(int) throws IllegalArgumentException,IllegalStateException",
        "public int touchRun(int,int,int) throws IllegalArgumentException,IllegalStateException",
        "public int touches()",
        "public int pageOf(int) throws NoSuchElementException",
        "public int faults(int) throws IllegalArgumentException",
        "public boolean holds(int,int) throws IllegalArgumentException",
        "public int held(int) throws IllegalArgumentException",
        "public int victim(int) throws IllegalArgumentException,NoSuchElementException",
        "public int hand()",
        "public boolean isReferenced(int) throws IllegalArgumentException",
        "public int listOf(int) throws IllegalArgumentException",
        "public int listSize(int) throws IllegalArgumentException",
        "public int target()",
        "public int prefetches()",
        "public int usefulPrefetches()",
        "public int refaults(int) throws IllegalArgumentException",
        "public int refaultDistance(int) throws IllegalArgumentException,NoSuchElementException",
        "public int workingSet(int) throws NoSuchElementException",
        "public float averageWorkingSet() throws NoSuchElementException",
        "public int faultsWith(int) throws IllegalArgumentException",
        "public int bestFaults(int) throws IllegalArgumentException",
        "public float ratio(int) throws IllegalArgumentException,NoSuchElementException",
    };

    public static void main(String[] args) {
        Check check = new Check("FaceTest");
        check.due("the class is public and final", true,
            () -> Modifier.isPublic(Swapmere.class.getModifiers())
                && Modifier.isFinal(Swapmere.class.getModifiers()));
        check.due("the methods", sorted(List.of(FACE)), () -> sorted(visibleMethods()));
        check.due("the constructors", "[public Swapmere()]", FaceTest::constructors);
        check.due("visible fields", "[]", FaceTest::visibleFields);
        check.end();
    }

    private static List<String> sorted(List<String> texts) {
        List<String> copy = new ArrayList<>(texts);
        Collections.sort(copy);
        return copy;
    }

    private static List<String> visibleMethods() {
        List<String> found = new ArrayList<>();
        for (Method method : Swapmere.class.getDeclaredMethods()) {
            if (!Modifier.isPrivate(method.getModifiers()) && !method.isSynthetic()) {
                found.add(method.toGenericString().replace("java.lang.", "")
                    .replace("java.util.", "").replace("Swapmere.", ""));
            }
        }
        return found;
    }

    private static List<String> constructors() {
        List<String> found = new ArrayList<>();
        for (Constructor<?> constructor : Swapmere.class.getDeclaredConstructors()) {
            found.add(constructor.toGenericString());
        }
        return found;
    }

    private static List<String> visibleFields() {
        List<String> found = new ArrayList<>();
        for (Field field : Swapmere.class.getDeclaredFields()) {
            if (!Modifier.isPrivate(field.getModifiers()) && !field.isSynthetic()) {
                found.add(field.toString());
            }
        }
        return found;
    }
}
