import java.io.IOException;
import java.lang.reflect.Field;
import java.lang.reflect.Member;
import java.lang.reflect.Method;
import java.lang.reflect.Modifier;
import java.nio.file.Files;
import java.nio.file.Path;
import java.util.Set;
import java.util.TreeSet;
import java.util.regex.Matcher;
import java.util.regex.Pattern;

/** The rules of LANGUAGE.md that can be seen in the source's text and in the class's face. */
public final class LanguageTest {
    private static final Check check = new Check();
    private static final String[] BARRED = {"throw", "throws", "try", "catch", "finally", "synchronized", "assert", "->",
        "::", "Exact", "HashMap", "System.out", "Random", "Thread", "@SuppressWarnings", "Object", "equals", "hashCode",
        "toString", "Exception", "package"};
    private static final String FACE = "bank beside count crop crops end fault feed gains give go grower growerOf law"
        + " light money owed paste pay pledge receipt redeem right row split sum tear terms write";

    public static void main(String[] args) throws IOException {
        barredWords(Files.readString(Path.of("src/main/java/SurplusLand.java")));
        face();
        fields();
        check.finish();
    }

    private static void barredWords(String source) {
        String code = source.replaceAll("(?s)/\\*.*?\\*/", "").replaceAll("//.*", "");
        for (String word : BARRED) {
            String bound = Character.isLetter(word.charAt(0)) ? "\\b" : "";
            Matcher m = Pattern.compile(bound + Pattern.quote(word) + bound).matcher(code);
            check.due("'" + word + "' in the source", m.find(), false);
        }
        Matcher imports = Pattern.compile("import (.*);").matcher(code);
        while (imports.find()) {
            check.due("import " + imports.group(1), imports.group(1).matches("java\\.util\\.(Arrays|ArrayList|List)"), true);
        }
    }

    private static boolean isOpen(Member m) {
        return !Modifier.isPrivate(m.getModifiers()) && !m.isSynthetic();
    }

    private static void face() {
        check.due("public and final", Modifier.isFinal(SurplusLand.class.getModifiers()), true);
        check.due("one constructor", SurplusLand.class.getDeclaredConstructors().length, 1);
        Set<String> open = new TreeSet<>();
        Set<String> hidden = new TreeSet<>();
        for (Method m : SurplusLand.class.getDeclaredMethods()) {
            (isOpen(m) ? open : hidden).add(m.getName());
        }
        check.due("the face is '" + String.join(" ", open) + "'", String.join(" ", open).equals(FACE), true);
        for (Class<?> inside : SurplusLand.class.getDeclaredClasses()) {
            check.due(inside + " is static", Modifier.isStatic(inside.getModifiers()), true);
            for (Method m : inside.getDeclaredMethods()) {
                hidden.add(m.getName());
                check.due(m + " takes seven at most", m.getParameterCount() <= 7, true);
            }
        }
        for (String name : hidden) {
            check.due("'" + name + "' is a name of the face", open.contains(name), false);
        }
        check.due("twelve classes at most", SurplusLand.class.getDeclaredClasses().length <= 11, true);
    }

    private static void fields() {
        for (Field f : SurplusLand.class.getDeclaredFields()) {
            check.due(f + " may be seen", isOpen(f), f.getName().equals("NONE"));
        }
        for (Class<?> inside : SurplusLand.class.getDeclaredClasses()) {
            int own = 0;
            for (Field f : inside.getDeclaredFields()) {
                own += f.isSynthetic() ? 0 : 1;
                check.due(f + " is static", Modifier.isStatic(f.getModifiers()), false);
            }
            check.due("fields of " + inside, own <= 20, true);
        }
    }
}
