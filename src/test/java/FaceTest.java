import java.lang.reflect.Constructor;
import java.lang.reflect.Field;
import java.lang.reflect.Method;
import java.lang.reflect.Modifier;
import java.util.Set;
import java.util.TreeSet;

/** The class shows the document's face and nothing else, and hides its inner classes. */
public final class FaceTest {
    private static final Set<String> FACE = Set.of(
            "public static final int NONE",
            "public SegmentLocks()",
            "public int task(int)",
            "public int ask(int,int,int)",
            "public int write(int,int,long)",
            "public long read(int,int) throws IllegalArgumentException,IllegalStateException",
            "public int sync(int)",
            "public int backout(int)",
            "public int ring(int)",
            "public int checkpoint(int)",
            "public int dead(int)",
            "public int limit(int)",
            "public int holder(int)",
            "public boolean serial()",
            "public long value(int) throws IllegalArgumentException",
            "public int state(int,int)");

    private static String plain(String text) {
        return text.replace("SegmentLocks.", "").replace("java.lang.", "");
    }

    public static void main(String[] args) {
        Set<String> shown = new TreeSet<>();
        Set<String> publicNames = new TreeSet<>();
        for (Field f : SegmentLocks.class.getDeclaredFields()) {
            if (!Modifier.isPrivate(f.getModifiers())) {
                shown.add(plain(f.toString()));
            }
        }
        for (Constructor<?> c : SegmentLocks.class.getDeclaredConstructors()) {
            if (!Modifier.isPrivate(c.getModifiers())) {
                shown.add(plain(c.toString()));
            }
        }
        for (Method m : SegmentLocks.class.getDeclaredMethods()) {
            if (!Modifier.isPrivate(m.getModifiers())) {
                shown.add(plain(m.toString()));
                publicNames.add(m.getName());
            }
        }
        boolean fine = shown.equals(new TreeSet<>(FACE)) && Modifier.isFinal(SegmentLocks.class.getModifiers());
        for (Class<?> inner : SegmentLocks.class.getDeclaredClasses()) {
            fine &= Modifier.isStatic(inner.getModifiers()) && !Modifier.isPublic(inner.getModifiers());
            for (Method m : inner.getDeclaredMethods()) {
                fine &= !publicNames.contains(m.getName());
            }
        }
        for (Method m : SegmentLocks.class.getDeclaredMethods()) {
            fine &= !Modifier.isPrivate(m.getModifiers()) || !publicNames.contains(m.getName());
        }
        System.out.println(fine ? "the face is as due" : "the face is not as due: " + shown);
        if (!fine) {
            System.exit(1);
        }
    }
}
