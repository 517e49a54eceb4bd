import java.lang.reflect.Constructor;
import java.lang.reflect.Field;
import java.lang.reflect.Method;
import java.lang.reflect.Modifier;
import java.nio.charset.StandardCharsets;
import java.nio.file.Files;
import java.nio.file.Path;
import java.util.Set;
import java.util.TreeSet;
import java.util.regex.Matcher;
import java.util.regex.Pattern;

/** The face of the class, and what LANGUAGE.md asks of its form as far as a test can see it. */
public final class FormTest {
    private static final String[] FACE = {
        "int ahead(int,int)", "int apart()", "int asks(int,int)", "int beside(int,int)", "int book(int,int)",
        "int called(int,int)", "int card(int,int,int,int)", "int dated(int,int)", "boolean does(int,boolean)",
        "boolean end(int)", "int fault(int)", "int feed(int,int,int,int,int)", "int game(int)", "int goes(int,int)",
        "int hands(int,int)", "int hears(int,int)", "boolean image(boolean)", "int keeps(int,int)", "int led(int)",
        "int look(int)", "int met(int)", "int note(int,int,boolean)", "int of(int,int)", "int ring(int)",
        "int root(int)", "int seconds()", "boolean set(int,int,int)", "int sorted(int)", "int state(int)",
        "int tells(int)", "int text(int)", "int toss(int)", "boolean undo()", "int uses(int)", "int whose(int)",
        "int years(int)"};
    private static final String[] BANNED = {
        "\\bthrow\\b", "\\btry\\b", "\\bcatch\\b", "\\bsynchronized\\b", "\\bassert\\b", "\\bimport\\b", "\\bpackage\\b",
        "->", "::", "Exact\\b", "\\bthrows\\b", "\\bequals\\b", "\\bhashCode\\b", "\\bSystem\\.(?!arraycopy)", "\\bRandom\\b",
        "\\bThread\\b", "\\bObject\\b", "\\bprotected\\b", "\\bstatic\\s*\\{", "\\bwhile\\s*\\(\\s*true"};

    private FormTest() {
    }

    public static void main(String[] args) throws Exception {
        face();
        names();
        source(Files.readString(Path.of("src/main/java/CardDrawer.java"), StandardCharsets.ISO_8859_1));
        Due.close("FormTest");
    }

    private static String told(Method m) {
        StringBuilder s = new StringBuilder(m.getReturnType() + " " + m.getName() + "(");
        for (int i = 0; i < m.getParameterCount(); i++) {
            s.append(i > 0 ? "," : "").append(m.getParameterTypes()[i]);
        }
        return s.append(")").toString();
    }

    private static void face() {
        Set<String> seen = new TreeSet<>();
        for (Method m : CardDrawer.class.getDeclaredMethods()) {
            if (Modifier.isPublic(m.getModifiers())) {
                seen.add(told(m));
                Due.due(m + " is not static", Modifier.isStatic(m.getModifiers()), false);
            } else {
                Due.due(m + " is private", Modifier.isPrivate(m.getModifiers()), true);
            }
        }
        Due.due("the face is " + seen, seen.equals(new TreeSet<>(Set.of(FACE))), true);
        for (Field f : CardDrawer.class.getDeclaredFields()) {
            Due.due(f + " is private", Modifier.isPrivate(f.getModifiers()), !f.getName().equals("NONE"));
        }
        for (Constructor<?> c : CardDrawer.class.getDeclaredConstructors()) {
            Due.due(c + " is public", Modifier.isPublic(c.getModifiers()) && c.getParameterCount() == 0, true);
        }
        int type = CardDrawer.class.getModifiers();
        Due.due("public and final", Modifier.isPublic(type) && Modifier.isFinal(type), true);
    }

    private static void names() {
        Set<String> face = new TreeSet<>();
        for (String call : FACE) {
            face.add(call.substring(call.indexOf(' ') + 1, call.indexOf('(')));
        }
        Class<?>[] inside = CardDrawer.class.getDeclaredClasses();
        Due.due("some twelve classes", inside.length <= 12, true);
        for (Class<?> c : inside) {
            Due.due(c + " is static", Modifier.isStatic(c.getModifiers()), true);
            int fields = 0;
            for (Field f : c.getDeclaredFields()) {
                boolean constant = Modifier.isStatic(f.getModifiers());
                fields += constant ? 0 : 1;
                Due.due(f + " is final if it is static", !constant || Modifier.isFinal(f.getModifiers()), true);
            }
            Due.due(c + " has some twenty fields", fields <= 20, true);
            for (Method m : c.getDeclaredMethods()) {
                Due.due(m + " bears a name of the face", face.contains(m.getName()), false);
                Due.due(m + " takes seven at most", m.getParameterCount() <= 7, true);
            }
        }
    }

    private static void source(String text) {
        String bare = text.replaceAll("(?s)/\\*.*?\\*/", "").replaceAll("//[^\n]*", "").replaceAll("\"[^\"\n]*\"", "\"\"");
        for (String word : BANNED) {
            Matcher m = Pattern.compile(word).matcher(bare);
            Due.due("the source has " + word, m.find(), false);
        }
        String[] lines = text.split("\n");
        int start = 0;
        for (int i = 0; i < lines.length; i++) {
            if (lines[i].matches(" {4,8}[^ ].*\\) \\{")) {
                start = i;
            } else if (lines[i].matches(" {4,8}\\}")) {
                Due.due("line " + start + ": some sixty lines", i - start <= 60 || start == 0, true);
                start = i;
            }
            Due.due("line " + i + " is ASCII", lines[i].chars().allMatch(c -> c < 127), true);
        }
    }
}
