import java.lang.reflect.Constructor;
import java.lang.reflect.Field;
import java.lang.reflect.Method;
import java.lang.reflect.Modifier;
import java.util.Set;
import java.util.TreeSet;

/** The public face is the document's and no more, and the fields are of the kinds allowed. */
public final class FaceTest {
    private static final Set<String> FACE = new TreeSet<>(Set.of(
            "public static final int CodeSearcher.NONE",
            "public CodeSearcher()",
            "public int CodeSearcher.feed(int)",
            "public void CodeSearcher.restart()",
            "public boolean CodeSearcher.extend(int)",
            "public int CodeSearcher.shorten()",
            "public int CodeSearcher.pattern()",
            "public int CodeSearcher.codes()",
            "public int CodeSearcher.words()",
            "public int CodeSearcher.wordLength(int)",
            "public int CodeSearcher.wordSymbol(int,int)",
            "public int CodeSearcher.length()",
            "public int CodeSearcher.symbol(int)",
            "public int CodeSearcher.count()",
            "public int CodeSearcher.first()",
            "public int CodeSearcher.last()",
            "public int CodeSearcher.tail()",
            "public int CodeSearcher.within()",
            "public int CodeSearcher.endingIn(int)"));
    private static final Set<Class<?>> FIELD_TYPES = Set.of(
            int.class, long.class, short.class, byte.class, char.class, boolean.class,
            int[].class, long[].class, short[].class, byte[].class, char[].class, boolean[].class);

    private static Set<String> visibleMembers() {
        Set<String> members = new TreeSet<>();
        for (Field field : CodeSearcher.class.getDeclaredFields()) {
            if (!Modifier.isPrivate(field.getModifiers())) {
                members.add(field.toGenericString());
            }
        }
        for (Constructor<?> constructor : CodeSearcher.class.getDeclaredConstructors()) {
            if (!Modifier.isPrivate(constructor.getModifiers())) {
                members.add(constructor.toGenericString());
            }
        }
        for (Method method : CodeSearcher.class.getDeclaredMethods()) {
            if (!Modifier.isPrivate(method.getModifiers())) {
                members.add(method.toGenericString());
            }
        }
        return members;
    }

    private static int wrongFields() {
        int wrong = 0;
        for (Field field : CodeSearcher.class.getDeclaredFields()) {
            boolean isStatic = Modifier.isStatic(field.getModifiers());
            boolean isConstant = Modifier.isFinal(field.getModifiers())
                    && (field.getType() == int.class || field.getType() == long.class);
            if (!FIELD_TYPES.contains(field.getType()) || (isStatic && !isConstant)) {
                wrong++;
                System.out.println("not a field that the language allows: " + field);
            }
        }
        return wrong;
    }

    public static void main(String[] args) {
        int wrong = wrongFields();
        Set<String> members = visibleMembers();
        if (!members.equals(FACE)) {
            wrong++;
            System.out.println("the face is " + members + ", due is " + FACE);
        }
        if (!Modifier.isPublic(CodeSearcher.class.getModifiers())
                || !Modifier.isFinal(CodeSearcher.class.getModifiers())
                || CodeSearcher.class.getDeclaredClasses().length != 0) {
            wrong++;
            System.out.println("the class is not public and final, or holds another one");
        }
        System.out.println(wrong == 0 ? "the face is the document's" : "the face is not the document's");
        if (wrong != 0) {
            System.exit(1);
        }
    }
}
