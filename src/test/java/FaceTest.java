import java.lang.reflect.Constructor;
import java.lang.reflect.Field;
import java.lang.reflect.Member;
import java.lang.reflect.Method;
import java.lang.reflect.Modifier;
import java.lang.reflect.Parameter;
import java.util.Arrays;
import java.util.Set;
import java.util.TreeSet;
import java.util.stream.Collectors;

/** The public face of the document, member by member, and that nothing else is public. */
public final class FaceTest {
    /** As "The public face" of the document has them. */
    private static final String[] FACE = {
        "public static final int NONE;",
        "public ShortForms();",
        "public int feed(int a, int b, int c, int d, int e);",
        "public int text(int n);",
        "public int page(int n);",
        "public int fault(int what);",
        "public int open(int reading, int what) throws IndexOutOfBoundsException, NoSuchElementException;",
        "public int entry(int entry, int what);",
        "public int letter(boolean of, int which, int i);",
        "public int written(int word, int i);",
        "public long openings(int word);",
        "public int least(int word);",
        "public int leastLetter(int word, int i);",
        "public int exact(int word, int entry);",
        "public int exactBy(int word, int entry, int k);",
        "public int choices(int word);",
        "public int choice(int word, int place, int what);",
        "public int best();",
        "public int chosen(int word);",
        "public int opened(int i);",
        "public int takes(int reading);",
        "public long readings();",
        "public int forced(int word, int place);",
        "public int margin(int word);",
        "public int second();",
        "public int sure();",
        "public int without(int reading);",
        "public int shortest(int entry);",
        "public int shortByte(int entry, int i);",
        "public int fits(int word);",
        "public int learn();",
        "public int forget();",
        "public int weigh(int reading, int v);",
        "public int fix(int word, int place);",
        "public int free(int word);",
        "public int fixed();",
        "public int chance(int seed, int n, int what);",
        "public int undo();",
        "public int keep();",
        "public int back();",
        "public int count(int what);"
    };

    private static int wrong = 0;

    private static void holds(String what, boolean is) {
        if (!is) {
            wrong++;
            System.out.println("does not hold: " + what);
        }
    }

    public static void main(String[] args) {
        holds("ShortForms is public and final",
            Modifier.isPublic(ShortForms.class.getModifiers()) && Modifier.isFinal(ShortForms.class.getModifiers()));
        holds("NONE is -1", ShortForms.NONE == -1);
        compareWithDocument();
        System.out.println(wrong == 0 ? "FaceTest: all holds" : "FaceTest: " + wrong + " do not hold");
        if (wrong != 0) {
            System.exit(1);
        }
    }

    /** The face as the document writes it, against what the class shows. */
    private static void compareWithDocument() {
        Set<String> got = new TreeSet<>();
        for (Field f : ShortForms.class.getDeclaredFields()) {
            if (isShown(f)) {
                got.add(Modifier.toString(f.getModifiers()) + " " + f.getType().getSimpleName() + " " + f.getName() + ";");
            }
        }
        for (Constructor<?> c : ShortForms.class.getDeclaredConstructors()) {
            if (isShown(c)) {
                got.add(Modifier.toString(c.getModifiers()) + " ShortForms(" + told(c.getParameters()) + ");");
            }
        }
        for (Method m : ShortForms.class.getDeclaredMethods()) {
            if (isShown(m)) {
                got.add(Modifier.toString(m.getModifiers()) + " " + m.getReturnType().getSimpleName() + " " + m.getName()
                    + "(" + told(m.getParameters()) + ")" + thrown(m) + ";");
            }
        }
        for (String member : FACE) {
            holds("the class has: " + member, got.contains(withoutNames(member)));
        }
        holds("nothing is shown but the face: " + got, got.size() == FACE.length);
    }

    private static boolean isShown(Member m) {
        return (m.getModifiers() & (Modifier.PUBLIC | Modifier.PROTECTED)) != 0 && !m.isSynthetic();
    }

    private static String told(Parameter[] parameters) {
        return Arrays.stream(parameters).map(p -> p.getType().getSimpleName()).collect(Collectors.joining(", "));
    }

    private static String thrown(Method m) {
        Class<?>[] classes = m.getExceptionTypes();
        return classes.length == 0 ? "" : " throws "
            + Arrays.stream(classes).map(Class::getSimpleName).collect(Collectors.joining(", "));
    }

    /** "int text(int n);" as "int text(int);": a class file need not keep the parameters' names. */
    private static String withoutNames(String member) {
        int open = member.indexOf('(');
        int close = member.indexOf(')');
        return open < 0 ? member
            : member.substring(0, open) + member.substring(open, close).replaceAll(" \\w+(?=,|$)", "") + member.substring(close);
    }
}
