import java.io.IOException;
import java.nio.file.Files;
import java.nio.file.Path;
import java.util.Set;
import java.util.regex.Matcher;
import java.util.regex.Pattern;

/** A coarse look at the rules of ../shared/LANGUAGE.md that a search of the program's text can tell. */
public final class LanguageTest {
    private static final Path PROGRAM = Path.of("src", "main", "java", "ThrowModels.java");
    private static final int LONGEST_METHOD = 60;
    private static final Set<String> BANNED_WORDS = Set.of(
        "import", "package", "try", "catch", "finally", "throw", "throws", "synchronized", "assert",
        "protected", "double", "float", "Double", "Float", "Object", "native", "volatile", "transient");
    private static final Set<String> LIBRARY = Set.of("System.arraycopy", "Math.max", "Math.min", "Math.abs");
    private static final Set<String> LIBRARY_CLASSES = Set.of(
        "System", "Math", "StrictMath", "Integer", "Long", "Short", "Byte", "Character", "Boolean",
        "Arrays", "Collections", "Objects", "String", "StringBuilder", "Thread", "Class");

    public static void main(String[] args) throws IOException {
        String program = withoutComments(Files.readString(PROGRAM));
        Matcher words = Pattern.compile("\\b[A-Za-z]\\w*\\b").matcher(program);
        while (words.find()) {
            Check.due("banned word " + words.group(), BANNED_WORDS.contains(words.group()) ? 1 : 0, 0);
        }
        Matcher uses = Pattern.compile("\\b([A-Z]\\w*)\\.(\\w+)").matcher(program);
        while (uses.find()) {
            boolean isLibrary = LIBRARY_CLASSES.contains(uses.group(1));
            Check.due("library " + uses.group(), isLibrary && !LIBRARY.contains(uses.group()) ? 1 : 0, 0);
        }
        Check.due("lambdas and method references", program.contains("->") || program.contains("::") ? 1 : 0, 0);
        checkMethodLengths(program);
        Check.end();
    }

    private static String withoutComments(String text) {
        return text.replaceAll("(?s)/\\*.*?\\*/", "").replaceAll("//[^\n]*", "");
    }

    private static void checkMethodLengths(String program) {
        Matcher methods = Pattern.compile("(?m)^( {4,8})(?!.*\\bclass\\b|.*\\benum\\b)\\S[^;\n]*\\) \\{\n((?:(?!\\1\\}).*\n)*)").matcher(program);
        while (methods.find()) {
            long lines = methods.group(2).lines().count();
            Check.due("a method of " + lines + " lines", lines > LONGEST_METHOD ? 1 : 0, 0);
        }
    }
}
