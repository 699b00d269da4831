import java.lang.reflect.Constructor;
import java.lang.reflect.Field;
import java.lang.reflect.Member;
import java.lang.reflect.Method;
import java.lang.reflect.Modifier;
import java.nio.file.Files;
import java.nio.file.Path;
import java.util.Arrays;
import java.util.HashSet;
import java.util.Set;
import java.util.TreeSet;
import java.util.regex.Matcher;
import java.util.regex.Pattern;

/** The public face is the document's and no more, and the source keeps to what of LANGUAGE.md can be looked up. */
public final class FaceTest {
    private static final String[] METHODS = {
        "int places(int)", "int island(int,int,int)", "int is(int)", "int turned(int)", "int may(int,int,int)",
        "int between(int,int,int)", "int fills(int)", "int add(int,int)", "int drop(int,int)", "int clear(int)",
        "int mark(int,int)", "int good(int,int)", "int build(int,int,int)", "int most(int,int)", "int bound()",
        "int lay(int,int,int,int)", "int join(int,int,int)", "int shorten(int,int,int)", "int turn(int,int)",
        "int even(int,int,int)", "int feed(int,long)", "int read(int)", "int fault()", "int count(int)",
        "int owner(int,int,int,int)", "int look(int,int)", "long chance(int,int)", "int likely(int,int)",
        "int heap(int,int,int,int)", "int make(int,int,int,int,int)", "int trace(int,int,int,int)",
        "int inAll(int,int,int,int)", "int framed(int,int)",
    };
    private static final String[] CONSTANTS = {"NONE=-1", "UNKNOWN=-1001", "OUTSIDE=-1002", "NOT=-1003", "FULL=-1004", "LARGE=-1005"};
    private static final String[] BARRED_WORDS = {
        "throw", "throws", "try", "catch", "finally", "synchronized", "assert", "protected", "extends Exception",
        "hashCode", "toString", "System.out", "Object", "Random", "Thread", "volatile", "native",
    };

    public static void main(String[] args) throws Exception {
        Checks checks = new Checks();
        Class<?> face = PodMarks.class;
        checks.holds("the class is public and final", Modifier.isPublic(face.getModifiers()) && Modifier.isFinal(face.getModifiers()));
        checkMembers(checks, face);
        checkClassesInside(checks, face);
        checkSource(checks, Files.readString(Path.of("src/main/java/PodMarks.java")));
        checks.end();
    }

    private static void checkMembers(Checks checks, Class<?> face) throws IllegalAccessException {
        Set<String> methods = new TreeSet<>();
        for (Method m : face.getDeclaredMethods()) {
            if (!Modifier.isPrivate(m.getModifiers())) {
                methods.add(describe(m));
            }
        }
        checks.holds("the public methods are the document's: " + methods, methods.equals(new TreeSet<>(Arrays.asList(METHODS))));
        Set<String> constants = new TreeSet<>();
        for (Field f : face.getDeclaredFields()) {
            if (!Modifier.isPrivate(f.getModifiers())) {
                constants.add(f.getName() + "=" + f.getInt(null));
                checks.holds(f + " is a public constant", Modifier.isPublic(f.getModifiers()) && Modifier.isFinal(f.getModifiers()));
            }
        }
        checks.holds("the constants are the document's: " + constants, constants.equals(new TreeSet<>(Arrays.asList(CONSTANTS))));
        Constructor<?>[] constructors = face.getDeclaredConstructors();
        checks.holds("one constructor, public and bare", constructors.length == 1 && constructors[0].getParameterCount() == 0
                && Modifier.isPublic(constructors[0].getModifiers()));
    }

    private static String describe(Method m) {
        StringBuilder all = new StringBuilder(m.getReturnType().getName()).append(' ').append(m.getName()).append('(');
        for (Class<?> p : m.getParameterTypes()) {
            all.append(all.charAt(all.length() - 1) == '(' ? "" : ",").append(p.getName());
        }
        return all.append(')').toString();
    }

    private static void checkClassesInside(Checks checks, Class<?> face) {
        Set<String> publicNames = new HashSet<>();
        for (Method m : face.getDeclaredMethods()) {
            if (Modifier.isPublic(m.getModifiers())) {
                publicNames.add(m.getName());
            }
        }
        checks.holds("at most twelve classes", face.getDeclaredClasses().length < 12);
        checkClass(checks, face, publicNames);
        for (Class<?> inside : face.getDeclaredClasses()) {
            checks.holds(inside + " is static and not public",
                    Modifier.isStatic(inside.getModifiers()) && !Modifier.isPublic(inside.getModifiers()));
            checkClass(checks, inside, publicNames);
        }
    }

    private static void checkClass(Checks checks, Class<?> type, Set<String> publicNames) {
        int fields = 0;
        for (Field f : type.getDeclaredFields()) {
            if (Modifier.isStatic(f.getModifiers())) {
                checks.holds(f + " is final", Modifier.isFinal(f.getModifiers()));
            } else {
                fields++;
            }
        }
        checks.holds(type + " has at most twenty fields", fields <= 20);
        for (Method m : type.getDeclaredMethods()) {
            checks.holds(m + " has at most seven parameters", m.getParameterCount() <= 7);
            checks.holds(m + " does not bear a public method's name", isOfFace(m) || !publicNames.contains(m.getName()));
        }
    }

    private static boolean isOfFace(Member m) {
        return m.getDeclaringClass() == PodMarks.class && Modifier.isPublic(m.getModifiers());
    }

    private static void checkSource(Checks checks, String source) {
        String code = source.replaceAll("(?s)/\\*.*?\\*/", "").replaceAll("//[^\n]*", "").replaceAll("\"[^\"\n]*\"", "\"\"");
        for (String barred : BARRED_WORDS) {
            checks.holds("the source has no " + barred, !Pattern.compile("\\b" + Pattern.quote(barred) + "\\b").matcher(code).find());
        }
        checks.holds("no lambda, no method reference", !code.contains("->") && !code.contains("::"));
        checks.holds("no package line", !Pattern.compile("(?m)^\\s*package\\b").matcher(code).find());
        Matcher imports = Pattern.compile("(?m)^import ([^;]*);").matcher(code);
        while (imports.find()) {
            checks.holds("import " + imports.group(1), imports.group(1).equals("java.util.Arrays"));
        }
        for (int i = 0; i < source.length(); i++) {
            if (source.charAt(i) > 126) {
                checks.holds("a sign beyond 126 at " + i, false);
            }
        }
    }
}
