import java.lang.reflect.Constructor;
import java.lang.reflect.Field;
import java.lang.reflect.Method;
import java.lang.reflect.Modifier;
import java.nio.file.Files;
import java.nio.file.Path;
import java.util.Arrays;
import java.util.Set;
import java.util.TreeSet;

/** The class has the document's face and nothing else that can be seen, and its source keeps to the words of LANGUAGE.md. */
public final class FaceTest {
    private static final String[] METHODS = {
        "int append(int)", "int clearText()", "int addAxiom()", "int detach(int,int)", "int prove()", "int cut(int)",
        "int listSize()", "int formulaSize(int)", "int variableCount(int)", "int majorOf(int)", "int minorOf(int)",
        "int proofDepth(int)", "long proofSize(int)", "int writeFormula(int)", "int writeProof(int)", "int outputLength()",
        "int outputAt(int)", "int isInstance(int,int)", "int moreGeneral(int)", "int unify(int,int)", "int round(int)",
        "int shortest(int,int)", "int setEntry(int,int,int)", "int setDesignated(int)", "int isNormal()", "int isValid(int)",
        "int refutation(int,int)", "int countValuations(int,int)", "int addType()", "int reduceTerm(int)",
        "int allocate(int,int,int)", "int put(int,int,int)", "long rowElement(int,int)",
        "int copyElements(int,int,int,int,int)", "int storeOutput(int,int)", "int loadText(int,int,int)"};
    private static final String[] CONSTANTS = {
        "NO_SUCH_ELEMENT=-1", "BAD_VALUE=-2", "FULL=-3", "NONE=-4", "TOO_LARGE=-5", "MISSING_ROW=-6", "WRONG_TYPE=-7",
        "OUT_OF_BOUNDS=-8", "NEGATIVE_LENGTH=-9"};
    private static final String[] FORBIDDEN = {
        "throw", "throws", "try", "catch", "finally", "synchronized", "assert", "package", "protected", "volatile",
        "transient", "native", "Object", "System.out", "Random", "Thread", "Long.MIN_VALUE"};

    private static int wrong = 0;

    private static void due(String what, Object got, Object want) {
        if (!got.equals(want)) {
            wrong++;
            System.out.println(what + ": found " + got + ", due is " + want);
        }
    }

    public static void main(String[] args) throws Exception {
        Class<?> face = CondensedDetachment.class;
        due("the class", Modifier.toString(face.getModifiers()), "public final");
        checkMethods(face);
        checkConstants(face);
        Constructor<?>[] constructors = face.getDeclaredConstructors();
        due("constructors", constructors.length, 1);
        due("the constructor", Modifier.toString(constructors[0].getModifiers()) + constructors[0].getParameterCount(), "public0");
        for (Class<?> inside : face.getDeclaredClasses()) {
            due(inside.getName() + " is static", Modifier.isStatic(inside.getModifiers()), true);
            checkNames(face, inside);
        }
        checkNames(face, face);
        checkSource();
        System.out.println(wrong == 0 ? "the face is as due" : wrong + " things are not as due");
        if (wrong != 0) {
            System.exit(1);
        }
    }

    private static void checkMethods(Class<?> face) {
        Set<String> seen = new TreeSet<>();
        for (Method method : face.getDeclaredMethods()) {
            if (!Modifier.isPrivate(method.getModifiers())) {
                due(method.getName() + " modifiers", Modifier.toString(method.getModifiers()), "public");
                StringBuilder line = new StringBuilder(method.getReturnType().getName() + " " + method.getName() + "(");
                for (Class<?> type : method.getParameterTypes()) {
                    line.append(line.charAt(line.length() - 1) == '(' ? "" : ",").append(type.getName());
                }
                seen.add(line + ")");
            }
        }
        due("methods", seen, new TreeSet<>(Arrays.asList(METHODS)));
    }

    private static void checkConstants(Class<?> face) throws Exception {
        Set<String> seen = new TreeSet<>();
        for (Field field : face.getDeclaredFields()) {
            if (!Modifier.isPrivate(field.getModifiers())) {
                due(field.getName() + " modifiers", Modifier.toString(field.getModifiers()), "public static final");
                seen.add(field.getName() + "=" + field.getInt(null));
            }
        }
        due("constants", seen, new TreeSet<>(Arrays.asList(CONSTANTS)));
    }

    /** No method of our own, wherever it stands, bears the name of a public one. */
    private static void checkNames(Class<?> face, Class<?> where) {
        for (Method method : where.getDeclaredMethods()) {
            if (where != face || Modifier.isPrivate(method.getModifiers())) {
                for (String known : METHODS) {
                    if (known.contains(" " + method.getName() + "(")) {
                        due(where.getName() + " has a method of its own named", method.getName(), "another name");
                    }
                }
            }
        }
    }

    private static void checkSource() throws Exception {
        String source = Files.readString(Path.of("src/main/java/CondensedDetachment.java"));
        String code = source.replaceAll("(?s)/\\*.*?\\*/", " ").replaceAll("//[^\n]*", " ").replaceAll("\"[^\"\n]*\"", "\"\"");
        for (String word : FORBIDDEN) {
            due("the word " + word, code.matches("(?s).*\\b" + word.replace(".", "\\.") + "\\b.*"), false);
        }
        due("lambdas", code.contains("->"), false);
        due("method references", code.contains("::"), false);
        due("annotations", code.matches("(?s).*[^'\"]@[^'\"].*"), false);
        due("imports", code.replaceAll("(?s).*?import ([\\w.]+);(?=.*)|(?s)(?<=;).*", "$1").trim(), "java.util.Arrays");
        due("signs above 126", source.matches("(?s).*[^\n -~].*"), false);
    }
}
