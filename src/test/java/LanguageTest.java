import java.lang.reflect.Executable;
import java.lang.reflect.Field;
import java.lang.reflect.Modifier;
import java.nio.file.Files;
import java.nio.file.Path;
import java.util.ArrayList;
import java.util.List;
import java.util.Set;
import java.util.regex.Matcher;
import java.util.regex.Pattern;
import javax.tools.ToolProvider;

/** The rules of LANGUAGE.md that can be seen in the text of the class, and in what it calls. */
public final class LanguageTest {
    private static final Path SOURCE = Path.of("src/main/java/PipelineRunner.java");
    private static final List<String> FORBIDDEN = List.of("->", "::", "\\btry\\b", "\\bcatch\\b", "\\bfinally\\b",
            "\\bsynchronized\\b", "\\bassert\\b", "\\brecord\\b", "\\bpackage\\b", "\\bprotected\\b", "\\bSystem\\.(?!arraycopy)",
            "Exact\\(", "static\\s*\\{", "\\bhashCode\\b", "\\btoString\\b", "\\bextends\\b", "\\bdouble\\b",
            "\\bfloat\\b", "\\bObject\\b", "\"\\s*\\+", "\\+\\s*\"", ":\\s*\\w+List\\)", "\\bvar\\b");
    private static final List<String> THROWN = List.of("IndexOutOfBoundsException", "IllegalArgumentException",
            "IllegalStateException");
    /** Those that rule 4 lists and the class uses; another one that is listed may join them. */
    private static final Set<String> LIBRARY = Set.of("java.lang.Object.Object()",
            "java.lang.IndexOutOfBoundsException.IndexOutOfBoundsException(java.lang.String)",
            "java.lang.IllegalArgumentException.IllegalArgumentException(java.lang.String)",
            "java.lang.IllegalStateException.IllegalStateException(java.lang.String)",
            "java.lang.Integer.bitCount(int)", "java.lang.Math.min(int,int)", "java.util.ArrayList.ArrayList()",
            "java.util.ArrayList.add(E)", "java.util.ArrayList.get(int)", "java.util.ArrayList.set(int,E)",
            "java.util.ArrayList.remove(int)", "java.util.ArrayList.isEmpty()", "java.util.ArrayList.size()");
    private static final int MOST_CLASSES = 12;
    private static final int MOST_FIELDS = 20;
    private static final int MOST_PARAMETERS = 7;
    private static final int MOST_OPEN_CALLS = 8;
    private static int faults;

    public static void main(String[] args) throws Exception {
        String text = Files.readString(SOURCE);
        if (!text.chars().allMatch(sign -> sign == '\n' || sign >= 32 && sign < 127)) {
            fault("a sign that is not plain ASCII");
        }
        String code = text.replaceAll("(?s)/\\*.*?\\*/", "").replaceAll("//[^\n]*", "");
        for (String each : FORBIDDEN) {
            Matcher found = Pattern.compile(each).matcher(code);
            if (found.find()) {
                fault("forbidden: " + found.group());
            }
        }
        importsAreListed(code);
        throwsAreListed(code);
        methodsAreShort(code);
        namesArePublicOrPrivate(code);
        // A java that comes without its javac can't read calls; the text has been read all the same.
        if (ToolProvider.getSystemJavaCompiler() == null) {
            System.out.println("no compiler in this java: calls are not read");
        } else {
            callsAreListedAndNotDeep(new Calls(SOURCE));
        }
        classesAreSmall();
        System.out.println(faults + " faults against the language");
        System.exit(faults == 0 ? 0 : 1);
    }

    private static void fault(String what) {
        faults++;
        System.out.println(what);
    }

    private static void importsAreListed(String code) {
        Matcher found = Pattern.compile("import ([^;]*);").matcher(code);
        while (found.find()) {
            if (!found.group(1).equals("java.util.ArrayList")) {
                fault("import of " + found.group(1));
            }
        }
    }

    private static void throwsAreListed(String code) {
        Matcher found = Pattern.compile("throw\\s+(?!new (\\w+)\\((\"[^\"]*\")?\\);)[^;]*;").matcher(code);
        while (found.find()) {
            fault("not a plain throw: " + found.group());
        }
        found = Pattern.compile("throw new (\\w+)").matcher(code);
        while (found.find()) {
            if (!THROWN.contains(found.group(1))) {
                fault("throw of " + found.group(1));
            }
        }
    }

    private static void methodsAreShort(String code) {
        String[] lines = code.split("\n");
        int start = 0;
        for (int i = 0; i < lines.length; i++) {
            if (lines[i].matches(" {4}( {4})?[A-Za-z].*\\(.*") && !lines[i].endsWith(";")) {
                start = i;
            }
            if (lines[i].matches(" {4}( {4})?}") && i - start > 60) {
                fault("a long method at line " + start);
            }
        }
    }

    /** No method that is not public bears the name of a public one, in the classes inside neither. */
    private static void namesArePublicOrPrivate(String code) {
        Matcher open = Pattern.compile("public \\w+ (\\w+)\\(").matcher(code);
        while (open.find()) {
            Pattern other = Pattern.compile("(?<!public )(?<!new )\\b(int|boolean|void|[A-Z]\\w*) " + open.group(1) + "\\(");
            if (other.matcher(code).find()) {
                fault("a name twice: " + open.group(1));
            }
        }
    }

    private static void callsAreListedAndNotDeep(Calls calls) {
        for (String called : calls.ofLibrary()) {
            if (!LIBRARY.contains(called)) {
                fault("a call that may not be listed: " + called);
            }
        }
        if (calls.deepest() > MOST_OPEN_CALLS) {
            fault("calls that go " + calls.deepest() + " deep");
        }
    }

    private static void classesAreSmall() {
        List<Class<?>> classes = new ArrayList<>(List.of(PipelineRunner.class.getDeclaredClasses()));
        classes.add(PipelineRunner.class);
        if (classes.size() > MOST_CLASSES) {
            fault(classes.size() + " classes");
        }
        for (Class<?> each : classes) {
            int fields = 0;
            for (Field field : each.getDeclaredFields()) {
                fields += Modifier.isStatic(field.getModifiers()) ? 0 : 1;
            }
            if (fields > MOST_FIELDS) {
                fault(fields + " fields of " + each);
            }
            List<Executable> members = new ArrayList<>(List.of(each.getDeclaredMethods()));
            members.addAll(List.of(each.getDeclaredConstructors()));
            for (Executable member : members) {
                if (member.getParameterCount() > MOST_PARAMETERS) {
                    fault("too many parameters: " + member);
                }
            }
        }
    }
}
