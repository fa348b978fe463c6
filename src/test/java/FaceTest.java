import java.lang.reflect.Constructor;
import java.lang.reflect.Field;
import java.lang.reflect.Member;
import java.lang.reflect.Method;
import java.lang.reflect.Modifier;
import java.util.Set;
import java.util.TreeSet;

/** The class has the document's face and shows nothing else. */
public final class FaceTest {
    private static final Set<String> FACE = Set.of(
            "public OnceStore()",
            "public static final int OnceStore.NONE",
            "public int OnceStore.put(int,int) throws IllegalArgumentException,IllegalStateException",
            "public int OnceStore.get(int) throws IllegalArgumentException,IllegalStateException",
            "public boolean OnceStore.wouldMove(int,int) throws IllegalArgumentException,IllegalStateException",
            "public void OnceStore.begin() throws IllegalStateException",
            "public int OnceStore.stage(int,int) throws IllegalArgumentException,IllegalStateException",
            "public int OnceStore.commit() throws IllegalStateException",
            "public int OnceStore.abandon() throws IllegalStateException",
            "public int OnceStore.left(int) throws IllegalArgumentException",
            "public int OnceStore.cell(int,int,int) throws IndexOutOfBoundsException",
            "public void OnceStore.failAfter(int) throws IllegalArgumentException,IllegalStateException",
            "public boolean OnceStore.isOn()",
            "public int OnceStore.mount() throws IllegalStateException",
            "public int OnceStore.words(int) throws IllegalArgumentException",
            "public int OnceStore.history(int,int) throws IllegalArgumentException,IndexOutOfBoundsException");

    public static void main(String[] args) {
        Set<String> shown = new TreeSet<>();
        Set<String> publicNames = new TreeSet<>();
        for (Constructor<?> constructor : OnceStore.class.getDeclaredConstructors()) {
            addShown(shown, constructor, constructor.toString());
        }
        for (Field field : OnceStore.class.getDeclaredFields()) {
            addShown(shown, field, field.toString());
            if (Modifier.isStatic(field.getModifiers()) && !Modifier.isFinal(field.getModifiers())) {
                Run.report("static and not final: " + field);
            }
        }
        for (Method method : OnceStore.class.getDeclaredMethods()) {
            addShown(shown, method, method.toString());
            if (Modifier.isPublic(method.getModifiers())) {
                publicNames.add(method.getName());
            }
        }
        for (Method method : OnceStore.class.getDeclaredMethods()) {
            if (Modifier.isPrivate(method.getModifiers()) && publicNames.contains(method.getName())) {
                Run.report("a private method bears a public one's name: " + method);
            }
        }
        if (!shown.equals(new TreeSet<>(FACE))) {
            Run.report("the face is " + shown + ", due is " + new TreeSet<>(FACE));
        }
        if (!Modifier.isFinal(OnceStore.class.getModifiers()) || !Modifier.isPublic(OnceStore.class.getModifiers())) {
            Run.report("the class is not public and final");
        }
        Run.end();
    }

    private static void addShown(Set<String> shown, Member member, String text) {
        if (!Modifier.isPrivate(member.getModifiers()) && !member.isSynthetic()) {
            shown.add(text.replace("java.lang.", ""));
        }
    }
}
