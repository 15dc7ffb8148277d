import java.io.IOException;
import java.lang.reflect.Field;
import java.lang.reflect.Method;
import java.lang.reflect.Modifier;
import java.nio.file.Files;
import java.nio.file.Path;
import java.util.Arrays;
import java.util.Set;
import java.util.TreeSet;

/** The public face is the document's, to the letter, and nothing else can be seen from outside. */
public final class FaceTest {
    private static final String IOOBE = " throws java.lang.IndexOutOfBoundsException";
    private static final String ISE = " throws java.lang.IllegalStateException";
    private static final String BOTH = IOOBE + ",java.lang.IllegalStateException";

    private static final String[] FACE = {
        "int addPlayer()" + ISE,
        "int throwBall(int,int)" + BOTH,
        "int replaceString(int)" + BOTH,
        "int buyStrings(int) throws java.lang.IllegalArgumentException",
        "int newGame()",
        "boolean isStanding(int)" + IOOBE,
        "int standing()",
        "int wearOf(int)" + IOOBE,
        "boolean isBroken(int)" + IOOBE,
        "int brokenStrings()",
        "int mostWorn()",
        "int spareStrings()",
        "int awayFor(int)" + IOOBE,
        "int players()",
        "int playerInTurn()",
        "int frame()",
        "int throwsInFrame()",
        "boolean isOver()",
        "int throwsOf(int)" + IOOBE,
        "int scoreOf(int)" + IOOBE,
        "int pointsOf(int,int)" + IOOBE,
        "int strikesOf(int)" + IOOBE,
        "int sparesOf(int)" + IOOBE,
        "int leader()",
        "int wouldFall(int,int)" + IOOBE,
        "int lastToFall(int,int)" + IOOBE,
        "int bestThrow()",
        "int throwsToClear()",
        "int wouldBreak()",
        "double meanScore()",
        "long digest()",
    };

    private static final Path SOURCE = Path.of("src/main/java/SkittleStrings.java");

    /** The calls in the document's order, behind what the interface says ahead of them. */
    private static final String HEADINGS = "---- the game: addPlayer throwBall replaceString buyStrings newGame "
            + "---- the alley: isStanding standing wearOf isBroken brokenStrings mostWorn spareStrings awayFor "
            + "---- the score: players playerInTurn frame throwsInFrame isOver throwsOf scoreOf pointsOf strikesOf "
            + "sparesOf leader "
            + "---- what would be: wouldFall lastToFall bestThrow throwsToClear wouldBreak meanScore digest ";

    private FaceTest() {
    }

    public static void main(String[] args) throws IOException {
        Checks checks = new Checks("FaceTest");
        Class<?> face = SkittleStrings.class;
        checks.same("the class's modifiers", "public final", Modifier.toString(face.getModifiers()));
        checks.same("the class above it", Object.class, face.getSuperclass());
        checks.same("the interfaces", 0, face.getInterfaces().length);
        checks.same("the package", "", face.getPackageName());
        checks.same("the methods", new TreeSet<>(Arrays.asList(FACE)).toString(), visibleMethods(face).toString());
        checks.same("the constructors", "[public SkittleStrings()]", Arrays.toString(face.getDeclaredConstructors()));
        checks.same("fields that can be seen", 0, visibleFields(face));
        checks.same("private methods with a public name", "[]", hiddenWithPublicName(face).toString());
        checks.same("classes inside that can be seen", 0, visibleClasses(face));
        checks.same("the calls and what is said ahead of them", HEADINGS, headingsAndCalls());
        checks.finish();
    }

    private static String headingsAndCalls() throws IOException {
        StringBuilder told = new StringBuilder();
        for (String line : Files.readAllLines(SOURCE)) {
            if (line.startsWith("    // ---- ") && HEADINGS.contains(line.substring(7) + ":")) {
                told.append(line.substring(7)).append(": ");
            } else if (line.startsWith("    public ") && !line.contains(" SkittleStrings(")) {
                told.append(line.replaceAll(" *public [a-z]+ ([A-Za-z]+)\\(.*", "$1 "));
            }
        }
        return told.toString();
    }

    private static int visibleClasses(Class<?> face) {
        int count = 0;
        for (Class<?> inside : face.getDeclaredClasses()) {
            count += (inside.getModifiers() & (Modifier.PUBLIC | Modifier.PROTECTED)) == 0 ? 0 : 1;
        }
        return count;
    }

    private static Set<String> visibleMethods(Class<?> face) {
        Set<String> found = new TreeSet<>();
        for (Method method : face.getDeclaredMethods()) {
            if (!Modifier.isPrivate(method.getModifiers()) && !method.isSynthetic()) {
                found.add(method.toString().replace("public ", "").replace("SkittleStrings.", ""));
            }
        }
        return found;
    }

    private static int visibleFields(Class<?> face) {
        int count = 0;
        for (Field field : face.getDeclaredFields()) {
            count += Modifier.isPrivate(field.getModifiers()) || field.isSynthetic() ? 0 : 1;
        }
        return count;
    }

    private static Set<String> hiddenWithPublicName(Class<?> face) {
        Set<String> seen = new TreeSet<>();
        for (Method method : face.getMethods()) {
            seen.add(method.getName());
        }
        Set<String> found = new TreeSet<>();
        for (Method method : face.getDeclaredMethods()) {
            if (Modifier.isPrivate(method.getModifiers()) && seen.contains(method.getName())) {
                found.add(method.getName());
            }
        }
        return found;
    }
}
