import java.lang.reflect.Constructor;
import java.lang.reflect.Field;
import java.lang.reflect.Method;
import java.lang.reflect.Modifier;
import java.util.Arrays;
import java.util.HashSet;
import java.util.Set;
import java.util.TreeSet;

/** The public face of the document, and that there is no other one (rule 1 of LANGUAGE.md). */
public final class FaceTest {
    private static final String INDEX = "IndexOutOfBoundsException";
    private static final String ARGUMENT = "IllegalArgumentException";
    private static final String ELEMENT = "NoSuchElementException";
    private static final String REFUSED = "UnsupportedOperationException";
    private static final String STATE = "IllegalStateException";
    private static final String ARITHMETIC = "ArithmeticException";

    private static final String[] FACE = {
        "int farm(int) " + REFUSED,
        "int lay(int,int) " + REFUSED,
        "int giveUp(int,int) " + REFUSED,
        "int root(int) " + REFUSED,
        "int expose(int) " + REFUSED,
        "int charge(int,int,int) " + REFUSED,
        "int drive(int,int) " + REFUSED,
        "int farmOf(int,int) " + INDEX + "," + ARGUMENT,
        "int steps(int,int) " + INDEX + "," + ELEMENT,
        "int next(int,int) " + INDEX + "," + ELEMENT,
        "int onWay(int,int,int) " + INDEX + "," + ELEMENT,
        "int meet(int,int) " + INDEX + "," + ELEMENT,
        "int sum(int,int) " + INDEX + "," + ELEMENT,
        "int sumAgain(int,int) " + INDEX + "," + ELEMENT,
        "int dearest(int,int) " + INDEX + "," + ELEMENT,
        "boolean isJoined(int,int) " + INDEX,
        "boolean isTrack(int,int) " + INDEX,
        "int exposed(int,int) " + INDEX + "," + ELEMENT,
        "int wouldChange(int) " + INDEX,
        "int trees() ",
        "int size(int) " + INDEX,
        "int farthest(int) " + INDEX,
        "int longest(int) " + INDEX,
        "int wouldSplit(int,int) " + INDEX + "," + ELEMENT,
        "int drover(int) " + INDEX,
        "int ranked(int) " + ELEMENT,
        "int append(char) " + STATE,
        "int commands() " + ARGUMENT + "," + REFUSED,
        "int faultPosition() ",
        "int reason(int) " + ARGUMENT + "," + ELEMENT,
        "int way(int,int) " + INDEX + "," + ELEMENT,
        "int tree(int) " + INDEX,
        "char character(int) " + INDEX,
        "int meanToll() " + ARITHMETIC,
        "double paidShare() " + ARITHMETIC,
        "int account(int) " + ARGUMENT,
        "int undo() " + STATE,
        "int save() ",
        "int restore() " + STATE,
    };

    public static void main(String[] args) {
        Class<?> face = DroverTracks.class;
        Check.due("modifiers", Modifier.PUBLIC | Modifier.FINAL, face.getModifiers());
        checkMethods(face);
        checkFields(face);
        checkConstructor(face);
        checkClassesInside(face);
        Check.end("FaceTest");
    }

    private static void checkMethods(Class<?> face) {
        Set<String> publicOnes = new TreeSet<>();
        Set<String> publicNames = new HashSet<>();
        for (Method method : face.getDeclaredMethods()) {
            if (Modifier.isPublic(method.getModifiers())) {
                publicOnes.add(told(method));
                publicNames.add(method.getName());
                Check.due(method + " is of an object", false, Modifier.isStatic(method.getModifiers()));
            } else {
                Check.due(method + " is private", true, Modifier.isPrivate(method.getModifiers()));
            }
        }
        Check.due("face", new TreeSet<>(Arrays.asList(FACE)).toString(), publicOnes.toString());
        checkNames(face, publicNames);
        for (Class<?> inside : face.getDeclaredClasses()) {
            checkNames(inside, publicNames);
        }
    }

    private static void checkNames(Class<?> owner, Set<String> publicNames) {
        for (Method method : owner.getDeclaredMethods()) {
            if (!Modifier.isPublic(method.getModifiers())) {
                Check.due(method + " bears a public name", false, publicNames.contains(method.getName()));
            }
        }
    }

    private static String told(Method method) {
        StringBuilder told = new StringBuilder();
        told.append(method.getReturnType().getSimpleName()).append(' ').append(method.getName()).append('(');
        join(told, method.getParameterTypes());
        told.append(") ");
        join(told, method.getExceptionTypes());
        return told.toString();
    }

    private static void join(StringBuilder told, Class<?>[] types) {
        for (int index = 0; index < types.length; index++) {
            told.append(index == 0 ? "" : ",").append(types[index].getSimpleName());
        }
    }

    private static void checkFields(Class<?> owner) {
        int ofObjects = 0;
        for (Field field : owner.getDeclaredFields()) {
            Check.due(field + " is private", true, Modifier.isPrivate(field.getModifiers()));
            if (Modifier.isStatic(field.getModifiers())) {
                Check.due(field + " is final", true, Modifier.isFinal(field.getModifiers()));
            } else {
                ofObjects++;
            }
        }
        Check.holds(owner + " has some twenty fields at most", ofObjects <= 20);
    }

    private static void checkConstructor(Class<?> face) {
        Constructor<?>[] constructors = face.getDeclaredConstructors();
        Check.due("constructors", 1, constructors.length);
        Check.due("constructor", "public DroverTracks()", constructors[0].toString());
    }

    private static void checkClassesInside(Class<?> face) {
        Check.holds("some twelve classes at most", face.getDeclaredClasses().length <= 11);
        for (Class<?> inside : face.getDeclaredClasses()) {
            int modifiers = inside.getModifiers();
            Check.due(inside + " is seen outside", false, Modifier.isPublic(modifiers) || Modifier.isProtected(modifiers));
            Check.due(inside + " is static", true, Modifier.isStatic(modifiers));
            checkFields(inside);
        }
    }
}
