import java.lang.reflect.Constructor;
import java.lang.reflect.Field;
import java.lang.reflect.Method;
import java.lang.reflect.Modifier;
import java.util.ArrayList;
import java.util.Arrays;
import java.util.List;
import java.util.TreeSet;

/** The public face of the document, and rule 1 of LANGUAGE.md: no other member can be seen. */
public final class FaceTest {
    private static final String[] FACE = {
        "int append(int,int,int,int,int)",
        "int load(int) IllegalArgumentException",
        "int errorOffset()",
        "int periodCount()",
        "int clock()",
        "int reservedIn(int) IndexOutOfBoundsException",
        "int forecastOf(int) IndexOutOfBoundsException",
        "int orderOf(int) IndexOutOfBoundsException",
        "int openUnits(int) IndexOutOfBoundsException",
        "int missedUnits(int) IndexOutOfBoundsException",
        "long invoice(int) IndexOutOfBoundsException",
        "long balance()",
        "int bandFor(int) IllegalArgumentException",
        "int allowed(int,int,boolean) IllegalArgumentException",
        "int penaltyFor(int,int) IllegalArgumentException",
        "int breachCount()",
        "int allBreaches()",
        "int breachPeriod(int) IndexOutOfBoundsException",
        "int breachKind(int) IndexOutOfBoundsException",
        "int breachPenalty(int) IndexOutOfBoundsException",
        "boolean isWaived(int) IndexOutOfBoundsException",
        "int waiversLeft()",
        "int bestWaiving()",
        "int bestWaiver(int) IllegalArgumentException",
        "long projected()",
        "int bestReserved(int) IllegalArgumentException IllegalStateException",
        "int forecast(int,int) IndexOutOfBoundsException IllegalArgumentException IllegalStateException",
        "int order(int) IllegalArgumentException IllegalStateException",
        "long close() IllegalStateException",
        "int reserve(int,int) IndexOutOfBoundsException IllegalArgumentException IllegalStateException",
        "int waive(int) IndexOutOfBoundsException IllegalStateException",
        "int undo()",
        "long checksum()",
    };

    public static void main(String[] args) {
        Class<?> type = SupplyContract.class;
        Checks.dueText("the class", Modifier.toString(type.getModifiers()), "public final");
        Checks.due("interfaces", type.getInterfaces().length, 0);
        methods(type);
        constructors(type);
        fields(type);
        classesInside(type);
        Checks.due("SYNTAX_ERROR", SupplyContract.SYNTAX_ERROR, -2);
        Checks.due("OUT_OF_RANGE", SupplyContract.OUT_OF_RANGE, -3);
        Checks.due("TOO_MANY", SupplyContract.TOO_MANY, -4);
        Checks.due("TOO_DEEP", SupplyContract.TOO_DEEP, -5);
        Checks.end("FaceTest");
    }

    private static void methods(Class<?> type) {
        TreeSet<String> seen = new TreeSet<>();
        for (Method method : type.getDeclaredMethods()) {
            if (!Modifier.isPrivate(method.getModifiers())) {
                Checks.dueText(method.getName(), Modifier.toString(method.getModifiers()), "public");
                seen.add(signature(method));
            }
        }
        Checks.dueText("the methods", seen.toString(), new TreeSet<>(Arrays.asList(FACE)).toString());
    }

    private static String signature(Method method) {
        List<String> parameters = new ArrayList<>();
        for (Class<?> parameter : method.getParameterTypes()) {
            parameters.add(parameter.getSimpleName());
        }
        StringBuilder s = new StringBuilder(method.getReturnType().getSimpleName());
        s.append(' ').append(method.getName()).append('(').append(String.join(",", parameters)).append(')');
        for (Class<?> exception : method.getExceptionTypes()) {
            s.append(' ').append(exception.getSimpleName());
        }
        return s.toString();
    }

    private static void constructors(Class<?> type) {
        Constructor<?>[] constructors = type.getDeclaredConstructors();
        Checks.due("constructors", constructors.length, 1);
        Checks.dueText("the constructor", constructors[0].toString(), "public SupplyContract()");
    }

    private static void fields(Class<?> type) {
        TreeSet<String> seen = new TreeSet<>();
        for (Field field : type.getDeclaredFields()) {
            if (!Modifier.isPrivate(field.getModifiers())) {
                seen.add(field.toString());
            }
        }
        String prefix = "public static final int SupplyContract.";
        Checks.dueText("the constants", seen.toString(), "[" + prefix + "OUT_OF_RANGE, " + prefix + "SYNTAX_ERROR, "
            + prefix + "TOO_DEEP, " + prefix + "TOO_MANY]");
    }

    private static void classesInside(Class<?> type) {
        List<String> open = new ArrayList<>();
        for (String entry : FACE) {
            open.add(entry.substring(entry.indexOf(' ') + 1, entry.indexOf('(')));
        }
        Checks.holds("at most twelve classes", type.getDeclaredClasses().length < 12);
        for (Class<?> inside : type.getDeclaredClasses()) {
            Checks.holds(inside + " is static", Modifier.isStatic(inside.getModifiers()));
            Checks.holds(inside + " is not public", !Modifier.isPublic(inside.getModifiers()));
            for (Method method : inside.getDeclaredMethods()) {
                Checks.holds(method + " has a name of its own", !open.contains(method.getName()));
            }
            for (Field field : inside.getDeclaredFields()) {
                boolean constant = !Modifier.isStatic(field.getModifiers()) || Modifier.isFinal(field.getModifiers());
                Checks.holds(field + " is no static state", constant);
            }
        }
    }
}
