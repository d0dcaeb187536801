import java.lang.reflect.Constructor;
import java.lang.reflect.Field;
import java.lang.reflect.Method;
import java.lang.reflect.Modifier;
import java.util.Set;
import java.util.TreeSet;

// The public face of the document, and nothing beside it that can be seen from outside.
public final class CompLabelFace {
    private static final Set<String> FACE = Set.of(
        "public static final int CompLabel.BAD",
        "public static final int CompLabel.NONE",
        "public CompLabel(int,int)",
        "public boolean CompLabel.set(int,int,boolean)",
        "public boolean CompLabel.invert(int,int,int,int)",
        "public boolean CompLabel.isBlack(int,int)",
        "public int CompLabel.components()",
        "public int CompLabel.euler()",
        "public int CompLabel.label(int,int)",
        "public int CompLabel.area(int)",
        "public int CompLabel.holes(int)",
        "public int CompLabel.around(int)",
        "public int CompLabel.depth(int,int)",
        "public int CompLabel.enclosed(int)");

    public static void main(String[] args) {
        int wrong = 0;
        Set<String> seen = visibleMembers();
        for (String member : FACE) {
            if (!seen.contains(member)) {
                wrong++;
                System.out.println("missing: " + member);
            }
        }
        for (String member : seen) {
            if (!FACE.contains(member)) {
                wrong++;
                System.out.println("not in the document: " + member);
            }
        }
        if (!CompLabel.class.toGenericString().equals("public final class CompLabel")) {
            wrong++;
            System.out.println("the class is: " + CompLabel.class.toGenericString());
        }
        // What it inherits or holds could be seen from outside as well.
        boolean standsAlone = CompLabel.class.getSuperclass() == Object.class
            && CompLabel.class.getInterfaces().length == 0
            && CompLabel.class.getDeclaredClasses().length == 0;
        if (!standsAlone) {
            wrong++;
            System.out.println("the class has a parent, an interface or a nested class");
        }
        if (!nameOf(-1).equals("BAD") || !nameOf(-2).equals("NONE")) {
            wrong++;
            System.out.println("BAD is " + CompLabel.BAD + " and NONE is " + CompLabel.NONE);
        }
        System.out.println(wrong == 0 ? "the face is as due" : wrong + " faults of the face");
        if (wrong != 0) {
            System.exit(1);
        }
    }

    // Case labels: this compiles only if both are constants to the compiler, as the face has them.
    private static String nameOf(int answer) {
        switch (answer) {
            case CompLabel.BAD:
                return "BAD";
            case CompLabel.NONE:
                return "NONE";
            default:
                return "neither";
        }
    }

    private static Set<String> visibleMembers() {
        Set<String> seen = new TreeSet<>();
        for (Field field : CompLabel.class.getDeclaredFields()) {
            if (!Modifier.isPrivate(field.getModifiers())) {
                seen.add(field.toString());
            }
        }
        for (Constructor<?> constructor : CompLabel.class.getDeclaredConstructors()) {
            if (!Modifier.isPrivate(constructor.getModifiers())) {
                seen.add(constructor.toString());
            }
        }
        for (Method method : CompLabel.class.getDeclaredMethods()) {
            if (!Modifier.isPrivate(method.getModifiers())) {
                seen.add(method.toString());
            }
        }
        return seen;
    }
}
