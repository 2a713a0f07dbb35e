import java.io.IOException;
import java.lang.reflect.Constructor;
import java.lang.reflect.Field;
import java.lang.reflect.Method;
import java.lang.reflect.Modifier;
import java.nio.file.Files;
import java.nio.file.Path;
import java.util.Arrays;
import java.util.Set;
import java.util.TreeSet;

/** The public face is the document's, to the letter, and the source keeps to the plainest rules of LANGUAGE.md. */
public final class FaceTest {
    private static final String[] FACE = {
        "int addReach(int,int,int,int,int) IllegalArgumentException IllegalStateException",
        "int set(int,int) IndexOutOfBoundsException IllegalArgumentException",
        "int reach(int,int) IndexOutOfBoundsException IllegalArgumentException",
        "int lock(int,int) IndexOutOfBoundsException IllegalArgumentException",
        "int addShip(int,int,int,boolean) IllegalArgumentException UnsupportedOperationException",
        "void append(char) IllegalStateException",
        "int arrive() IllegalArgumentException UnsupportedOperationException",
        "int faultPosition()",
        "int join(int,int) UnsupportedOperationException",
        "int part(int) UnsupportedOperationException",
        "int refusal() NoSuchElementException",
        "int ship(int,int) IndexOutOfBoundsException IllegalArgumentException",
        "int convoy(int,int) IndexOutOfBoundsException NoSuchElementException",
        "int waiting(int,int) IndexOutOfBoundsException NoSuchElementException",
        "int priority(int) IndexOutOfBoundsException IllegalStateException",
        "int hindrance(int) IndexOutOfBoundsException IllegalStateException",
        "int pass(int) IllegalArgumentException IllegalStateException",
        "int tick()",
        "int untilLeft(int,int) IndexOutOfBoundsException IllegalArgumentException"
            + " IllegalStateException NoSuchElementException",
        "int account(int) IllegalArgumentException",
        "double meanLocked() ArithmeticException",
        "int undo() IllegalStateException",
        "void save()",
        "void restore() IllegalStateException",
    };

    public static void main(String[] args) throws IOException {
        Check check = new Check();
        face(check);
        innerClasses(check);
        source(check);
        check.finish();
    }

    private static void face(Check check) {
        check.isTrue("public and final", Modifier.isPublic(LockMaster.class.getModifiers())
                && Modifier.isFinal(LockMaster.class.getModifiers()));
        Constructor<?>[] constructors = LockMaster.class.getDeclaredConstructors();
        check.isTrue("one public constructor without parameters", constructors.length == 1
                && Modifier.isPublic(constructors[0].getModifiers()) && constructors[0].getParameterCount() == 0);
        Set<String> due = new TreeSet<>(Arrays.asList(FACE));
        Set<String> found = new TreeSet<>();
        for (Method method : LockMaster.class.getDeclaredMethods()) {
            if (!Modifier.isPrivate(method.getModifiers())) {
                check.isTrue(method + " is public and not static", Modifier.isPublic(method.getModifiers())
                        && !Modifier.isStatic(method.getModifiers()));
                found.add(describe(method));
            }
        }
        check.same("the face", found, due);
        for (Field field : LockMaster.class.getDeclaredFields()) {
            check.isTrue(field + " is private", Modifier.isPrivate(field.getModifiers()));
        }
    }

    private static String describe(Method method) {
        StringBuilder text = new StringBuilder(method.getReturnType() + " " + method.getName() + "(");
        for (Class<?> type : method.getParameterTypes()) {
            text.append(text.charAt(text.length() - 1) == '(' ? "" : ",").append(type);
        }
        text.append(")");
        for (Class<?> type : method.getExceptionTypes()) {
            text.append(" ").append(type.getSimpleName());
        }
        return text.toString();
    }

    private static void innerClasses(Check check) {
        Set<String> publicNames = new TreeSet<>();
        for (Method method : LockMaster.class.getMethods()) {
            publicNames.add(method.getName());
        }
        Class<?>[] inner = LockMaster.class.getDeclaredClasses();
        check.isTrue("at most twelve classes", inner.length + 1 <= 12);
        for (Class<?> one : inner) {
            check.isTrue(one + " is static and not public", Modifier.isStatic(one.getModifiers())
                    && !Modifier.isPublic(one.getModifiers()) && !Modifier.isProtected(one.getModifiers()));
            for (Method method : one.getDeclaredMethods()) {
                check.isTrue(method + " bears no public name", !publicNames.contains(method.getName()));
                check.isTrue(method + " takes at most seven", method.getParameterCount() <= 7);
            }
            for (Field field : one.getDeclaredFields()) {
                check.isTrue(field + " is final if static", !Modifier.isStatic(field.getModifiers())
                        || Modifier.isFinal(field.getModifiers()));
            }
        }
    }

    private static void source(Check check) throws IOException {
        String source = Files.readString(Path.of("src/main/java/LockMaster.java"));
        check.isTrue("only ASCII", source.chars().allMatch(c -> c < 128));
        String code = source.replaceAll("(?s)/\\*.*?\\*/", "").replaceAll("//[^\n]*", "")
                .replaceAll("\"[^\"\n]*\"", "\"\"");
        for (String word : new String[] {"->", "::", "catch", "finally", "synchronized", "assert", "instanceof",
            "Exact", "System.", "Object", "package ", "extends", "import java.util.A", "import java.util.*"}) {
            check.isTrue("the source does without " + word, !code.contains(word));
        }
    }
}
