import java.lang.reflect.Constructor;
import java.lang.reflect.Executable;
import java.lang.reflect.Field;
import java.lang.reflect.Member;
import java.lang.reflect.Method;
import java.lang.reflect.Modifier;
import java.util.Set;
import java.util.TreeSet;

/** The class has the public face of the document, and nothing else that others can see. */
public final class FaceTest {
    private static final Set<String> DUE = Set.of(
            "public HeapSuite()",
            "public static final int HeapSuite.BAD",
            "public static final int HeapSuite.FULL",
            "public static final int HeapSuite.NONE",
            "public int HeapSuite.insert(int,int)",
            "public int HeapSuite.first(int,int)",
            "public int HeapSuite.take(int)",
            "public int HeapSuite.lower(int,int)",
            "public int HeapSuite.change(int,int)",
            "public int HeapSuite.remove(int)",
            "public int HeapSuite.join(int,int)",
            "public int HeapSuite.takeUpTo(int,int)",
            "public int HeapSuite.size(int)",
            "public int HeapSuite.keyOf(int)",
            "public int HeapSuite.queueOf(int)",
            "public int HeapSuite.second(int)",
            "public boolean HeapSuite.agree(int,int)",
            "public boolean HeapSuite.sound()");
    private static final Set<String> FIELD_TYPES = Set.of(
            "int", "long", "short", "byte", "char", "boolean",
            "int[]", "long[]", "short[]", "byte[]", "char[]", "boolean[]");

    private static int wrong = 0;

    public static void main(String[] args) {
        Class<HeapSuite> face = HeapSuite.class;
        need(Modifier.isPublic(face.getModifiers()) && Modifier.isFinal(face.getModifiers()), "public and final");
        need(face.getSuperclass() == Object.class && face.getInterfaces().length == 0, "no super type");
        need(face.getDeclaredClasses().length == 0, "no nested class");
        need(face.getPackageName().isEmpty(), "no package");

        Set<String> seen = new TreeSet<>();
        Set<String> publicNames = new TreeSet<>();
        for (Method method : face.getDeclaredMethods()) {
            note(seen, method, method.toString());
            if (Modifier.isPublic(method.getModifiers())) {
                need(publicNames.add(method.getName()), "one public method named " + method.getName());
            }
        }
        for (Method method : face.getDeclaredMethods()) {
            boolean hidden = Modifier.isPrivate(method.getModifiers());
            need(!hidden || !publicNames.contains(method.getName()), "no private method named " + method.getName());
            fewParameters(method);
        }
        for (Constructor<?> constructor : face.getDeclaredConstructors()) {
            note(seen, constructor, constructor.toString());
        }
        int held = 0;
        for (Field field : face.getDeclaredFields()) {
            note(seen, field, field.toString());
            String type = field.getType().getSimpleName();
            need(FIELD_TYPES.contains(type), "a plain type for " + field);
            if (Modifier.isStatic(field.getModifiers())) {
                need(Modifier.isFinal(field.getModifiers()) && (type.equals("int") || type.equals("long")),
                        "a constant: " + field);
            } else {
                held++;
            }
        }
        need(held <= 40, "at most forty fields, not " + held);
        for (String member : DUE) {
            need(seen.contains(member), "a member " + member);
        }
        System.out.println(wrong == 0 ? "the face is as due" : wrong + " faults in the face");
        if (wrong != 0) {
            System.exit(1);
        }
    }

    private static void need(boolean holds, String what) {
        if (!holds) {
            wrong++;
            System.out.println("due is: " + what);
        }
    }

    private static void note(Set<String> seen, Member member, String text) {
        if (!Modifier.isPrivate(member.getModifiers())) {
            seen.add(text);
            need(DUE.contains(text), "nothing to be seen but the face, not " + text);
        }
    }

    private static void fewParameters(Executable method) {
        need(method.getParameterCount() <= 7, "at most seven parameters in " + method.getName());
    }
}
