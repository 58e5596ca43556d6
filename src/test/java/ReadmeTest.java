import java.io.ByteArrayOutputStream;
import java.io.PrintStream;
import java.util.ArrayList;
import java.util.List;

/** README.md shows Night.java as it stands, and each line of it shows what is told behind it. */
public final class ReadmeTest extends Checked {
    public static void main(String[] args) {
        List<String> source = Checks.lines("src/test/java/Night.java");
        same("README.md has Night.java", String.join("\n", source), String.join("\n", shownInReadme()));
        List<String> due = told(source);
        List<String> shown = shown();
        same("Night shows as many answers as it tells", due.size(), shown.size());
        for (int i = 0; i < Math.min(due.size(), shown.size()); i++) {
            same("Night, answer " + i, due.get(i), shown.get(i));
        }
        same("README.md names each file that it speaks of", true, namedFilesAreThere());
        Checks.finish("ReadmeTest");
    }

    private static List<String> shownInReadme() {
        List<String> shown = new ArrayList<>();
        boolean within = false;
        for (String line : Checks.lines("README.md")) {
            if (within && line.equals("```")) {
                return shown;
            }
            if (within) {
                shown.add(line);
            }
            within |= line.equals("```java");
        }
        return shown;
    }

    /** What stands behind // in a line that shows something, up to a : if there is one. */
    private static List<String> told(List<String> source) {
        List<String> told = new ArrayList<>();
        for (String line : source) {
            if (line.matches(" +show\\(.*")) {
                told.add(line.replaceAll(".*// ([^:]*).*", "$1"));
            }
        }
        return told;
    }

    private static List<String> shown() {
        PrintStream usual = System.out;
        ByteArrayOutputStream bytes = new ByteArrayOutputStream();
        System.setOut(new PrintStream(bytes, true));
        try {
            Night.main(new String[0]);
        } finally {
            System.setOut(usual);
        }
        return List.of(bytes.toString().split("\\R"));
    }

    private static boolean namedFilesAreThere() {
        boolean all = true;
        for (String line : Checks.lines("README.md")) {
            java.util.regex.Matcher file = java.util.regex.Pattern.compile("`([\\w./]+(\\.md|\\.java|/run))`").matcher(line);
            while (file.find()) {
                boolean is = java.nio.file.Files.exists(java.nio.file.Path.of(file.group(1)));
                if (!is) {
                    System.out.println("README.md names " + file.group(1) + ", and it is not there");
                }
                all &= is;
            }
        }
        return all;
    }
}
