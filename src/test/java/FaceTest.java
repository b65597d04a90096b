import java.lang.reflect.Constructor;
import java.lang.reflect.Field;
import java.lang.reflect.Method;
import java.lang.reflect.Modifier;
import java.nio.file.Files;
import java.nio.file.Path;
import java.util.ArrayList;
import java.util.List;
import java.util.TreeSet;

/** The public face is the document's, and nothing else of the class can be seen. */
public final class FaceTest {
    private static final String[] FACE = {
        "void reset(int,int) IllegalArgumentException",
        "int addProduction(int,int,int,int) IllegalArgumentException,IllegalStateException",
        "int removeProduction(int) IllegalArgumentException",
        "int removeUseless()",
        "int productionCount()",
        "int productionSymbol(int,int) IllegalArgumentException,IndexOutOfBoundsException",
        "int setStart(int) IllegalArgumentException",
        "int shortestLength(int) IllegalArgumentException",
        "int append(int) IllegalArgumentException,IllegalStateException",
        "int clearWord()",
        "int wordLength()",
        "int terminalAt(int) IndexOutOfBoundsException",
        "long treeCount()",
        "long treesOfLength(int) IllegalArgumentException",
        "int wordsOfLength(int,int) IllegalArgumentException",
        "double unambiguousShare(int) IllegalArgumentException",
        "double averageTrees(int) IllegalArgumentException,NoSuchElementException",
        "int firstAmbiguous(int) IllegalArgumentException,NoSuchElementException",
        "int wordRank() IllegalStateException,NoSuchElementException",
        "void takeWord(int,int) IllegalArgumentException,NoSuchElementException",
        "int drawWord(long,int) IllegalArgumentException,NoSuchElementException",
        "long drawTree(long,int) IllegalArgumentException,NoSuchElementException",
        "int takeTree(long) NoSuchElementException",
        "long treeNumber() IllegalStateException",
        "int treeSize() IllegalStateException",
        "int treeNode(int,int) IllegalStateException,IndexOutOfBoundsException,"
                + "IllegalArgumentException",
        "void allocate(int,boolean,int) IllegalArgumentException",
        "int setElement(int,int,int) IllegalArgumentException,IllegalStateException,"
                + "IndexOutOfBoundsException",
        "void storeCounts(int,int) IllegalArgumentException,IllegalStateException,"
                + "IndexOutOfBoundsException",
        "void loadWord(int,int,int) IllegalArgumentException,IllegalStateException,"
                + "IndexOutOfBoundsException,NoSuchElementException",
        "void snapshot()",
        "void restore() IllegalStateException",
    };

    public static void main(String[] args) throws Exception {
        Check check = new Check("FaceTest");
        Class<?> type = GrammarAmbiguity.class;
        check.due("public final", type.getModifiers(), Modifier.PUBLIC | Modifier.FINAL);
        TreeSet<String> face = new TreeSet<>();
        TreeSet<String> names = new TreeSet<>();
        for (Method method : type.getDeclaredMethods()) {
            if (!Modifier.isPrivate(method.getModifiers())) {
                check.due(method + " is public", method.getModifiers(), Modifier.PUBLIC);
                face.add(line(method));
                names.add(method.getName());
            }
        }
        check.due("the face", face, new TreeSet<>(List.of(FACE)));
        for (Method method : type.getDeclaredMethods()) {
            if (Modifier.isPrivate(method.getModifiers())) {
                check.due("a public method is named " + method.getName(),
                        names.contains(method.getName()), false);
            }
        }
        for (Field field : type.getDeclaredFields()) {
            check.due(field + " is private", Modifier.isPrivate(field.getModifiers()), true);
        }
        for (Constructor<?> constructor : type.getDeclaredConstructors()) {
            check.due("the constructor", constructor.toString(), "public GrammarAmbiguity()");
        }
        checkImports(check);
        check.end();
    }

    private static String line(Method method) {
        List<String> parameters = new ArrayList<>();
        for (Class<?> parameter : method.getParameterTypes()) {
            parameters.add(parameter.getSimpleName());
        }
        List<String> exceptions = new ArrayList<>();
        for (Class<?> exception : method.getExceptionTypes()) {
            exceptions.add(exception.getSimpleName());
        }
        return (method.getReturnType().getSimpleName() + " " + method.getName() + "("
                + String.join(",", parameters) + ") " + String.join(",", exceptions)).trim();
    }

    /** LANGUAGE.md leaves little of the library, and no try round what the machine throws. */
    private static void checkImports(Check check) throws Exception {
        Path file = Path.of("src/main/java/GrammarAmbiguity.java");
        for (String line : Files.readAllLines(file)) {
            if (line.startsWith("import ")) {
                check.due("the import", line, "import java.util.NoSuchElementException;");
            }
            check.due("a catch in " + line.trim(), line.contains("catch ("), false);
        }
    }
}
