import java.util.ArrayList;
import java.util.List;
import java.util.Map;
import java.util.Set;
import java.util.TreeMap;
import java.util.TreeSet;

/** What of ../shared/LANGUAGE.md can be seen in the classes that javac makes of LeadRoom.java. */
public final class ClassFileTest extends Checked {
    /** Rule 4, and the exceptions of rule 6, as far as the library's names go. */
    private static final Set<String> LIBRARY = Set.of("java/lang/Object.<init>()V",
        "java/lang/String.length()I", "java/lang/String.charAt(I)C", "java/lang/String.isEmpty()Z",
        "java/lang/String.equals(Ljava/lang/Object;)Z", "java/lang/String.indexOf(I)I",
        "java/lang/String.substring(I)Ljava/lang/String;", "java/lang/String.substring(II)Ljava/lang/String;",
        "java/lang/String.toCharArray()[C", "java/lang/String.<init>([C)V",
        "java/lang/System.arraycopy(Ljava/lang/Object;ILjava/lang/Object;II)V");
    private static final String STATIC_ONES = "java/lang/(Integer|Long|Math)\\.(?!.*Exact\\()\\w+\\([IJ]*\\)[IJZ]";
    private static final String ARRAYS = "java/util/Arrays\\.(copyOf|copyOfRange|fill)\\(\\[[ZBCSIJ].*";
    private static final String LISTS = "java/util/(ArrayList|List)\\.(<init>|add|get|set|remove|size|isEmpty|clear|of)\\(.*";
    private static final String BUILDER =
        "java/lang/StringBuilder\\.(<init>|append|charAt|setCharAt|setLength|deleteCharAt|reverse|length|toString)\\(.*";
    private static final String EXCEPTION = "java/(lang/(IllegalState|IllegalArgument|IndexOutOfBounds|Arithmetic"
        + "|UnsupportedOperation|Runtime)|util/NoSuchElement)Exception";
    private static final String OTHER_CLASSES =
        "java/lang/(Object|String|StringBuilder|Integer|Long|Math|System|Iterable|Comparable|Enum|Record)"
        + "|java/util/(List|ArrayList|Arrays|Iterator)";
    /** Numbers and own classes in rows, numbers in rows of rows, and texts. */
    private static final String TYPE =
        "(\\[{0,2}[ZBCSIJFD]|\\[?LLeadRoom(\\$\\w+)?;|\\[?Ljava/lang/String;|Ljava/lang/(StringBuilder|Integer);"
        + "|Ljava/util/(List|ArrayList);)";
    private static final int DEEPEST = 8;

    private static final Map<String, ClassFile.Method> METHODS = new TreeMap<>();
    private static final Map<String, Set<String>> CALLED = new TreeMap<>();

    public static void main(String[] args) {
        List<Class<?>> all = new ArrayList<>(List.of(LeadRoom.class.getDeclaredClasses()));
        all.add(LeadRoom.class);
        for (Class<?> one : all) {
            ClassFile file = ClassFile.of(one);
            constants(one, file);
            methods(one, file);
        }
        callsBetween();
        recursion();
        depth();
        Checks.finish("ClassFileTest");
    }

    private static void constants(Class<?> one, ClassFile file) {
        for (int kind : file.kinds) {
            same("rules 2, 10: no lambda, no text joined by + in " + one, false, kind >= 15 && kind <= 18);
        }
        for (String name : file.classes) {
            boolean isOwn = name.matches("\\[?L?LeadRoom(\\$\\w+)?;?") || name.matches("\\[+[ZBCSIJFD]");
            boolean isInner = name.equals("java/lang/invoke/MethodHandles$Lookup");
            same("rule 4: " + name + " in " + one, true,
                isOwn || name.matches(EXCEPTION) || name.matches(OTHER_CLASSES) && !isInner);
        }
        for (String text : file.texts) {
            same("rule 4: signs of '" + text + "'", true, text.matches("[\\x01-\\x7f]*"));
        }
        for (String type : file.types) {
            same("rule 3: " + type + " in " + one, true,
                type.matches(TYPE) || type.matches("\\(" + TYPE + "*\\)(V|" + TYPE + ")"));
        }
    }

    private static void methods(Class<?> one, ClassFile file) {
        for (ClassFile.Method method : file.methods) {
            String name = one.getName() + "." + method.name;
            METHODS.put(name, method);
            same("rule 5: no static initialiser in " + one, false, method.name.startsWith("<clinit>"));
            same("rule 6: no throw in the constructor " + name, false,
                method.isThrowing && method.name.startsWith("<init>"));
            same("no call is answered by a catch: " + name, false, method.catches);
            for (String called : method.calls) {
                if (!called.startsWith("LeadRoom")) {
                    same("rule 4: " + called + " in " + name, true, isListed(called));
                }
            }
        }
    }

    private static boolean isListed(String called) {
        return LIBRARY.contains(called) || called.matches(STATIC_ONES) || called.matches(ARRAYS)
            || called.matches(LISTS) || called.matches(BUILDER) || called.matches(EXCEPTION + "\\.<init>\\(.*\\)V");
    }

    // ---- rules 8 and 11: how deep calls go

    private static void callsBetween() {
        for (Map.Entry<String, ClassFile.Method> each : METHODS.entrySet()) {
            Set<String> called = new TreeSet<>();
            for (String name : each.getValue().calls) {
                if (METHODS.containsKey(name)) {
                    called.add(name);
                }
            }
            CALLED.put(each.getKey(), called);
        }
        same("rule 8: calls were found", true, CALLED.size() > 100);
    }

    private static Set<String> reachedFrom(String name) {
        Set<String> reached = new TreeSet<>();
        List<String> open = new ArrayList<>(CALLED.get(name));
        while (!open.isEmpty()) {
            String one = open.remove(open.size() - 1);
            if (reached.add(one)) {
                open.addAll(CALLED.get(one));
            }
        }
        return reached;
    }

    /** Only these call themselves or one another; depth, and how many STORIES a FIT has, keep them low. */
    private static void recursion() {
        Set<String> recursive = new TreeSet<>();
        for (String name : CALLED.keySet()) {
            if (reachedFrom(name).contains(name)) {
                recursive.add(name.replaceAll(".*\\.(\\w+)\\(.*", "$1"));
            }
        }
        same("rule 8: recursion", "[atom, chooseColumn, chooseKeep, either, every]", recursive.toString());
    }

    /** The longest way of calls that comes to no method twice: the levels of a recursion count as one. */
    private static void depth() {
        int deepest = 0;
        for (String name : CALLED.keySet()) {
            deepest = Math.max(deepest, depthOf(name, new TreeSet<>()));
        }
        same("rule 11: calls go " + deepest + " deep", true, deepest <= DEEPEST);
    }

    private static int depthOf(String name, Set<String> open) {
        if (!open.add(name)) {
            return 0;
        }
        int below = 0;
        for (String called : CALLED.get(name)) {
            below = Math.max(below, depthOf(called, open));
        }
        open.remove(name);
        return below + 1;
    }
}
