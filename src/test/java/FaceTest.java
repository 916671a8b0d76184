import java.lang.reflect.Constructor;
import java.lang.reflect.Field;
import java.lang.reflect.Method;
import java.lang.reflect.Modifier;
import java.nio.file.Files;
import java.nio.file.Path;
import java.util.Set;
import java.util.TreeSet;

/** The face of the class is the document's and nothing more, and the source has none of the words that LANGUAGE.md rules out. */
public final class FaceTest {
    private static final String[] METHODS = {
        "int letter(int)", "int blank()", "int fault()", "int words()", "int strike(int)", "int weigh(int,int)",
        "int about(int)", "int word(int,int)", "int sign(int,int)", "int begins(int,int)", "int squares(int)",
        "int row(int,int,int)", "int turned(int)", "int heaviest(int)", "int heavy(int)", "int put(int,int)",
        "int lift(int)", "int board(int)", "int fitting()", "int may(int)", "int sure(int,int)", "int search(int)",
        "int count(int)", "long digest()"};
    private static final String[] RULED_OUT = {
        "throw", "try", "catch", "synchronized", "assert", "->", "::", "Exact(", "hashCode", "toString", "System.",
        "protected", "@Override", "float", "double", "package "};

    private static int wrong = 0;

    private static void say(String what) {
        wrong++;
        System.out.println(what);
    }

    private static void methods() {
        Set<String> want = new TreeSet<>(Set.of(METHODS));
        Set<String> names = new TreeSet<>();
        for (Method m : WordSquares.class.getDeclaredMethods()) {
            if (Modifier.isPublic(m.getModifiers())) {
                StringBuilder b = new StringBuilder(m.getReturnType() + " " + m.getName() + "(");
                for (Class<?> c : m.getParameterTypes()) {
                    b.append(b.charAt(b.length() - 1) == '(' ? "" : ",").append(c);
                }
                String told = b.append(")").toString();
                if (!want.remove(told)) {
                    say("not in the document: " + told);
                }
                names.add(m.getName());
            } else if (!Modifier.isPrivate(m.getModifiers())) {
                say("neither public nor private: " + m);
            }
        }
        for (String missing : want) {
            say("missing: " + missing);
        }
        noneNamed(WordSquares.class, names);
        for (Class<?> c : WordSquares.class.getDeclaredClasses()) {
            noneNamed(c, names);
            if (!Modifier.isStatic(c.getModifiers()) || Modifier.isPublic(c.getModifiers())) {
                say("a class inside is static and not public: " + c);
            }
        }
    }

    private static void noneNamed(Class<?> c, Set<String> names) {
        for (Method m : c.getDeclaredMethods()) {
            if (!Modifier.isPublic(m.getModifiers()) && names.contains(m.getName())) {
                say("bears the name of a public method: " + m);
            }
        }
    }

    private static void fieldsAndConstructors() throws Exception {
        Set<String> constants = new TreeSet<>();
        for (Field f : WordSquares.class.getDeclaredFields()) {
            int mod = f.getModifiers();
            if (Modifier.isPublic(mod)) {
                constants.add(f.getName() + "=" + f.getInt(null));
            } else if (!Modifier.isPrivate(mod)) {
                say("neither public nor private: " + f);
            }
            if (Modifier.isStatic(mod) && !Modifier.isFinal(mod)) {
                say("static and not final: " + f);
            }
        }
        if (!constants.equals(new TreeSet<>(Set.of("NONE=-1", "UNKNOWN=-101", "OUTSIDE=-102", "STATE=-103", "FULL=-104")))) {
            say("the constants are " + constants);
        }
        Constructor<?>[] made = WordSquares.class.getDeclaredConstructors();
        if (made.length != 1 || !Modifier.isPublic(made[0].getModifiers()) || made[0].getParameterCount() != 0) {
            say("there is one public constructor without arguments");
        }
        if (!Modifier.isFinal(WordSquares.class.getModifiers()) || !Modifier.isPublic(WordSquares.class.getModifiers())) {
            say("the class is public and final");
        }
    }

    private static void source() throws Exception {
        String text = Files.readString(Path.of("src/main/java/WordSquares.java"));
        for (String word : RULED_OUT) {
            if (text.contains(word)) {
                say("LANGUAGE.md rules out '" + word + "'");
            }
        }
        for (String line : text.split("\n")) {
            if (line.startsWith("import ") && !line.equals("import java.util.Arrays;")) {
                say("imports more than it needs: " + line);
            }
        }
    }

    public static void main(String[] args) throws Exception {
        methods();
        fieldsAndConstructors();
        source();
        System.out.println(wrong == 0 ? "the face is the document's" : wrong + " faults");
        if (wrong != 0) {
            System.exit(1);
        }
    }
}
