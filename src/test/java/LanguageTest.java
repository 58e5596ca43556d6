import java.lang.reflect.Field;
import java.lang.reflect.Method;
import java.lang.reflect.Modifier;
import java.util.ArrayList;
import java.util.List;
import java.util.Set;
import java.util.TreeSet;
import java.util.regex.Matcher;
import java.util.regex.Pattern;

/** The face of the class, and what of ../shared/LANGUAGE.md can be seen from its text and its members. */
public final class LanguageTest extends Checked {
    private static final String[] FACE = {
        "int feed(int,int,int,int,int)", "boolean end(int)", "void width(int,int,int) IO IA", "int story(int,int) IO IA UO",
        "int style(int) IA UO", "int fault()", "int part(int,int) IO NS", "int rule(int,int,int) IO IA NS",
        "int best(int,int) IO NS", "int ends(int,int) IO", "int hand(int,boolean) IO", "int machine(int,int) IA UO",
        "int brass(int,int,int) IO IA", "boolean broken(int,boolean) IO", "int give(int,int) IO UO", "int minutes(int) IA",
        "int runs(int,int) IO NS", "int slug(int,int) IO NS", "int says(int,int) IO", "int lies(int,int) IO IS",
        "int judge(int) IO IS", "boolean pie(int) IO", "boolean change(int,int) IO", "int again(int,int,int) IO IS UO",
        "int correct(int,int,int) IO IA IS UO", "boolean slip(int,int,int) IO IA", "boolean read(int,int) IO",
        "int proof(int) NS", "int carry(int,int,int) IO IA", "int where(int,int,int) IO", "void page(int,int,int) IO IA",
        "int fit(int,int) IO IA IS", "int fits(int,int,int,boolean) IO IA IS", "int lock(int,int) IO IA IS",
        "int locked(int,int) IO NS", "int stands(int,int,int) IO", "int edition() UO", "int changed(int,int,int) IO",
        "int least()", "int ahead(int) IO", "int pay(int,int,int) IO", "int row(int,int) NS", "int tear(int,int,int) NS",
        "int check()", "void image()", "boolean back()", "int count(int)"};
    private static final Pattern METHOD = Pattern.compile("^( {4}| {8})(?!else|new|return)[a-zA-Z][\\w\\[\\] ]* \\w+\\(.*");

    public static void main(String[] args) {
        List<String> source = Checks.lines(args.length > 0 ? args[0] : "src/main/java/LeadRoom.java");
        face();
        members(LeadRoom.class);
        for (Class<?> inner : LeadRoom.class.getDeclaredClasses()) {
            same("rule 2 " + inner + " is static", true, Modifier.isStatic(inner.getModifiers()));
            same("rule 1 " + inner + " is not public", false, Modifier.isPublic(inner.getModifiers()));
            inner(inner);
        }
        same("rule 11 some twelve classes", true, LeadRoom.class.getDeclaredClasses().length < 12);
        words(source);
        exceptions(source);
        methods(source);
        Checks.finish("LanguageTest");
    }

    private static String shortName(Class<?> exception) {
        String name = exception.getSimpleName();
        return name.startsWith("Index") ? "IO" : name.startsWith("IllegalArg") ? "IA" : name.startsWith("IllegalState") ? "IS"
            : name.startsWith("Unsupported") ? "UO" : name.startsWith("NoSuchElement") ? "NS" : name;
    }

    private static void face() {
        Set<String> due = new TreeSet<>(List.of(FACE));
        Set<String> found = new TreeSet<>();
        for (Method method : LeadRoom.class.getDeclaredMethods()) {
            if (Modifier.isPrivate(method.getModifiers())) {
                continue;
            }
            StringBuilder text = new StringBuilder(method.getReturnType() + " " + method.getName() + "(");
            for (Class<?> type : method.getParameterTypes()) {
                text.append(text.charAt(text.length() - 1) == '(' ? "" : ",").append(type);
            }
            text.append(')');
            for (Class<?> exception : method.getExceptionTypes()) {
                text.append(' ').append(shortName(exception));
            }
            found.add(text.toString());
        }
        same("the face", due.toString(), found.toString());
        same("48 promises, 47 methods", 47, found.size());
        same("one constructor", 1, LeadRoom.class.getDeclaredConstructors().length);
        same("the class is final", true, Modifier.isFinal(LeadRoom.class.getModifiers()));
    }

    private static void members(Class<?> face) {
        int fields = 0;
        for (Field field : face.getDeclaredFields()) {
            int modifiers = field.getModifiers();
            boolean isNone = field.getName().equals("NONE");
            same("rule 1 " + field, isNone, !Modifier.isPrivate(modifiers));
            same("rule 5 " + field, true, !Modifier.isStatic(modifiers) || Modifier.isFinal(modifiers));
            fields += Modifier.isStatic(modifiers) ? 0 : 1;
        }
        same("rule 11 some twenty fields", true, fields <= 20);
    }

    private static void inner(Class<?> inner) {
        Set<String> face = new TreeSet<>();
        for (String one : FACE) {
            face.add(one.replaceAll("^\\w+ (\\w+).*", "$1"));
        }
        for (Method method : inner.getDeclaredMethods()) {
            same("rule 1 no name of the face: " + method, false, face.contains(method.getName()));
            same("rule 11 parameters of " + method, true, method.getParameterCount() <= 7);
        }
        int fields = 0;
        for (Field field : inner.getDeclaredFields()) {
            int modifiers = field.getModifiers();
            same("rule 5 " + field, true, !Modifier.isStatic(modifiers) || Modifier.isFinal(modifiers));
            fields += Modifier.isStatic(modifiers) ? 0 : 1;
        }
        same("rule 11 some twenty fields in " + inner, true, fields <= 20);
    }

    /** Lines without their comments and texts. */
    private static List<String> bare(List<String> source) {
        List<String> bare = new ArrayList<>();
        for (String line : source) {
            String text = line.replaceAll("\"[^\"]*\"", "\"\"").replaceAll("//.*", "");
            bare.add(text.trim().startsWith("*") || text.trim().startsWith("/*") ? "" : text);
        }
        return bare;
    }

    private static void words(List<String> source) {
        String[] none = {"->", "::", "synchronized", "assert", "finally", "System.out", "System.err", "Random", "Thread",
            "static {", "getClass", "hashCode", "volatile", "native", "\"\" +", "+ \"\""};
        Set<String> imports = Set.of("NoSuchElementException", "ArrayList", "List", "Arrays", "Iterator");
        for (String line : bare(source)) {
            for (String word : none) {
                boolean isWord = word.matches("[a-zA-Z]+");
                boolean has = isWord ? line.matches(".*\\b" + word + "\\b.*") : line.contains(word);
                same("no '" + word + "' in " + line, false, has);
            }
            same("rule 4 no Exact in " + line, false, line.matches(".*\\w+Exact\\(.*"));
            Matcher library = Pattern.compile("\\b(System|Arrays|List|Collections|Objects)\\.(\\w+)").matcher(line);
            while (library.find()) {
                same("rule 4 " + library.group(), true, Set.of("System.arraycopy", "Arrays.copyOf", "Arrays.copyOfRange",
                    "Arrays.fill", "List.of").contains(library.group()));
            }
            if (line.startsWith("import")) {
                String name = line.replaceAll("import java\\.util\\.(\\w+);", "$1");
                same("rule 4 " + line, true, imports.contains(name));
            }
            same("not too long: " + line, true, line.length() <= 120);
        }
        for (String line : source) {
            for (char c : line.toCharArray()) {
                same("rule 4 only plain signs in " + line, true, c >= 32 && c < 127);
            }
        }
    }

    private static void exceptions(List<String> source) {
        String kinds = "(IllegalState|IllegalArgument|IndexOutOfBounds|Arithmetic|UnsupportedOperation|NoSuchElement|"
            + "Runtime)Exception";
        Pattern thrown = Pattern.compile(" *throw new " + kinds + "\\((\"\")?\\);");
        Pattern caught = Pattern.compile(".*\\bcatch \\(" + kinds + "( \\| " + kinds + ")* \\w+\\) \\{");
        int many = 0;
        for (String line : bare(source)) {
            if (line.contains("throw ")) {
                many++;
                same("rule 6 " + line, true, thrown.matcher(line).matches());
            }
            if (line.matches(".*\\bcatch\\b.*")) {
                same("rule 6 " + line, true, caught.matcher(line).matches());
            }
        }
        same("rule 6 there are some", true, many > 0);
    }

    private static void methods(List<String> source) {
        int begin = -1;
        String head = "";
        String indent = "";
        int methods = 0;
        for (int i = 0; i < source.size(); i++) {
            String line = source.get(i);
            if (begin < 0 && METHOD.matcher(line).matches() && !line.endsWith(";")) {
                begin = i;
                head = line.trim();
                indent = line.substring(0, line.length() - line.stripLeading().length());
            } else if (begin >= 0 && line.equals(indent + "}")) {
                methods++;
                same("rule 11 as short as 60 lines: " + head, true, i - begin + 1 <= 60);
                begin = -1;
            }
        }
        same("methods were found", true, methods >= 47);
    }
}
