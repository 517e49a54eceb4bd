import java.lang.reflect.Method;
import java.lang.reflect.Modifier;
import java.nio.charset.StandardCharsets;
import java.nio.file.Files;
import java.nio.file.Path;
import java.util.ArrayList;
import java.util.List;
import java.util.regex.Matcher;
import java.util.regex.Pattern;

/** README.md: its examples answer what it says, it names each call, and all tests. */
public final class ReadmeTest {
    private ReadmeTest() {
    }

    public static void main(String[] args) throws Exception {
        String readme = Files.readString(Path.of("README.md"), StandardCharsets.UTF_8);
        String itself = Files.readString(Path.of("src/test/java/ReadmeTest.java"), StandardCharsets.UTF_8);
        deeds();
        texts();
        examplesAreThese(readme, itself);
        namesAll(readme);
        Due.close("ReadmeTest");
    }

    private static void deeds() {
        CardDrawer drawer = new CardDrawer();
        int card = drawer.card(3, 1, 2, 0);
        boolean told = drawer.set(0, 0, 20);
        int holds = drawer.of(card, 8);
        int answered = drawer.ring(3);
        int worn = drawer.of(card, 5);
        boolean back = drawer.undo();
        Due.due("worn after undo()", drawer.of(card, 5), 0);
        int used = drawer.years(2);
        int lacked = drawer.look(4);
        Due.due("card", card, 0);
        Due.due("told", told, true);
        Due.due("holds", holds, 500);
        Due.due("answered", answered, 0);
        Due.due("worn", worn, 9);
        Due.due("back", back, true);
        Due.due("used", used, 0);
        Due.due("lacked", lacked, 2);
    }

    private static void texts() {
        CardDrawer drawer = new CardDrawer();
        int card = drawer.card(3, 1, 2, 0);
        int bytes = drawer.feed(0x686f6c64, 0x73203730, 0x30202d20, 0x6167653b, 0x20202020);
        Due.due("bytes", bytes, 20);
        boolean cut = drawer.end(16);
        Due.due("cut", cut, true);
        int lines = drawer.text(0);
        Due.due("lines", lines, 1);
        int holds = drawer.of(card, 8);
        Due.due("holds by the law", holds, 700);
        bytes = drawer.feed(0x686f6c64, 0x73203730, 0x30202d3b, 0x20202020, 0x20202020);
        Due.due("bytes again", bytes, 20);
        lines = drawer.text(0);
        Due.due("lines again", lines, -1);
        int fault = drawer.fault(0);
        Due.due("fault", fault, 1);
        int place = drawer.fault(1);
        Due.due("place", place, 11);
        Due.due("holds still by the law", drawer.of(card, 8), 700);
    }

    /** Each line of the examples stands above in the same order, and so does what it says it answers. */
    private static void examplesAreThese(String readme, String itself) {
        int at = 0;
        int lines = 0;
        Matcher block = Pattern.compile("(?s)```java\n(.*?)```").matcher(readme);
        while (block.find()) {
            for (String line : block.group(1).split("\n")) {
                String[] parts = line.split("//", 2);
                String code = "        " + parts[0].strip() + "\n";
                int found = itself.indexOf(code, at);
                Due.due("the test has \"" + code.strip() + "\"", found >= 0, true);
                at = Math.max(at, found + 1);
                lines++;
                if (parts.length == 2) {
                    answerIsChecked(code, parts[1], itself);
                }
            }
        }
        Due.due("examples of some lines", lines > 10, true);
    }

    private static void answerIsChecked(String code, String comment, String itself) {
        Matcher name = Pattern.compile("(\\w+) = ").matcher(code);
        Matcher answer = Pattern.compile("^ (-?[0-9]+|true|false)\\b").matcher(comment);
        boolean both = name.find() && answer.find();
        Due.due("\"" + comment + "\" begins with the answer", both, true);
        if (both) {
            Pattern check = Pattern.compile("Due\\.due\\(\"[^\"]*\", " + name.group(1) + ", " + answer.group(1) + "\\);");
            Due.due("the test checks \"" + code.strip() + "\"", check.matcher(itself).find(), true);
        }
    }

    private static void namesAll(String readme) throws Exception {
        List<String> names = new ArrayList<>();
        for (Method m : CardDrawer.class.getDeclaredMethods()) {
            if (Modifier.isPublic(m.getModifiers())) {
                names.add(m.getName());
            }
        }
        try (var files = Files.list(Path.of("src/test/java"))) {
            files.map(f -> f.getFileName().toString()).filter(f -> f.endsWith("Test.java"))
                .forEach(f -> names.add(f.substring(0, f.length() - 5)));
        }
        for (String name : names) {
            Due.due("README.md names " + name, readme.contains("`" + name + "`"), true);
        }
    }
}
