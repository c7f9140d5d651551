import java.lang.reflect.Constructor;
import java.lang.reflect.Field;
import java.lang.reflect.Method;
import java.lang.reflect.Modifier;
import java.util.Arrays;
import java.util.HashSet;
import java.util.Set;

/** The document's face and no other member, as the first rule of the language asks. */
public final class FaceTest {
    private static final Set<String> DUE = Set.of(
            "public boolean PatienceTable.rules(int,int,int,int)",
            "public boolean PatienceTable.cards(int,int)",
            "public void PatienceTable.deal(int) throws java.lang.IllegalArgumentException",
            "public void PatienceTable.clear()",
            "public int PatienceTable.lay(int,int) throws"
                    + " java.lang.IllegalArgumentException,java.lang.IllegalStateException",
            "public int PatienceTable.move(int,int,int) throws"
                    + " java.lang.IllegalArgumentException,java.lang.IllegalStateException",
            "public int PatienceTable.play(char,char) throws"
                    + " java.lang.IllegalArgumentException,java.lang.IllegalStateException",
            "public int PatienceTable.sendHome() throws java.lang.IllegalStateException",
            "public int PatienceTable.undo() throws java.util.NoSuchElementException",
            "public int PatienceTable.log()",
            "public int PatienceTable.card(int,int)",
            "public int PatienceTable.size(int)",
            "public int PatienceTable.most(int,int)",
            "public int PatienceTable.look(int) throws"
                    + " java.lang.IllegalArgumentException,java.lang.IllegalStateException",
            "public int PatienceTable.hint()",
            "public int PatienceTable.positions()");

    private FaceTest() {
    }

    public static void main(String[] args) {
        Check check = new Check("face");
        check.equal("NONE", PatienceTable.NONE, -1);
        check.equal("UNKNOWN", PatienceTable.UNKNOWN, -2);
        check.equal("LOST", PatienceTable.LOST, -3);
        check.that("the class is public and final", PatienceTable.class.getModifiers()
                == (Modifier.PUBLIC | Modifier.FINAL));
        methods(check);
        fields(check);
        Constructor<?>[] constructors = PatienceTable.class.getDeclaredConstructors();
        check.equal("constructors", constructors.length, 1);
        check.that("a public one without parameters", constructors[0].toString().equals("public PatienceTable()"));
        for (Class<?> inside : PatienceTable.class.getDeclaredClasses()) {
            check.that(inside + " is static", Modifier.isStatic(inside.getModifiers()));
            check.that(inside + " is in no face", !Modifier.isPublic(inside.getModifiers()));
        }
        check.end();
    }

    private static void methods(Check check) {
        Set<String> names = new HashSet<>();
        Set<String> shown = new HashSet<>();
        for (Method method : PatienceTable.class.getDeclaredMethods()) {
            if (!Modifier.isPrivate(method.getModifiers())) {
                shown.add(method.toString());
                names.add(method.getName());
            }
        }
        check.that("the methods shown are " + shown, shown.equals(DUE));
        for (Method method : PatienceTable.class.getDeclaredMethods()) {
            boolean isPrivate = Modifier.isPrivate(method.getModifiers());
            check.that(method + " has a name of the face", !isPrivate || !names.contains(method.getName()));
        }
    }

    private static void fields(Check check) {
        Set<String> shown = new HashSet<>();
        for (Field field : PatienceTable.class.getDeclaredFields()) {
            if (!Modifier.isPrivate(field.getModifiers())) {
                shown.add(field.toString());
            }
            boolean isStatic = Modifier.isStatic(field.getModifiers());
            check.that(field + " is no constant", !isStatic || Modifier.isFinal(field.getModifiers()));
        }
        Set<String> due = new HashSet<>();
        for (String name : Arrays.asList("NONE", "UNKNOWN", "LOST")) {
            due.add("public static final int PatienceTable." + name);
        }
        check.that("the fields shown are " + shown, shown.equals(due));
    }
}
