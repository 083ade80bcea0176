import java.lang.reflect.Constructor;
import java.lang.reflect.Field;
import java.lang.reflect.Method;
import java.lang.reflect.Modifier;
import java.nio.charset.StandardCharsets;
import java.nio.file.Files;
import java.nio.file.Path;
import java.util.ArrayList;
import java.util.List;
import java.util.Set;
import java.util.TreeSet;
import java.util.regex.Matcher;
import java.util.regex.Pattern;

/** The face that the document tells, and the rules of LANGUAGE.md that can be looked up. Runs in the project's folder. */
public final class LanguageTest {
    private static final Due DUE = new Due();
    private static final Path SOURCE = Path.of("src/main/java/GasTurn.java");
    private static final Path DOCUMENT = Path.of("../shared/DOC.md");

    public static void main(String[] args) throws Exception {
        face();
        members();
        String source = Files.readString(SOURCE, StandardCharsets.ISO_8859_1);
        for (char c : source.toCharArray()) if (c > 127) DUE.holds("4: signs are 1 to 127", false);
        String code = withoutCommentsAndTexts(source);
        words(code);
        lengths(code);
        DUE.end();
    }

    private static void face() throws Exception {
        Set<String> told = new TreeSet<>();
        String document = Files.readString(DOCUMENT, StandardCharsets.UTF_8);
        Matcher m = Pattern.compile("(?m)^    public int (\\w+)\\((.*)\\);$").matcher(document);
        while (m.find()) told.add(m.group(1) + " " + (m.group(2).isEmpty() ? 0 : m.group(2).split(",").length));
        Set<String> there = new TreeSet<>();
        for (Method method : GasTurn.class.getDeclaredMethods()) {
            if (!Modifier.isPublic(method.getModifiers())) continue;
            there.add(method.getName() + " " + method.getParameterCount());
            DUE.holds("1: int " + method.getName(), method.getReturnType() == int.class);
            for (Class<?> type : method.getParameterTypes()) DUE.holds("1: " + method.getName(), type == int.class);
        }
        DUE.is("1: methods that the document tells", told.size(), 49);
        DUE.holds("1: the face is the document's", told.equals(there));
        DUE.is("NONE", GasTurn.NONE, -1);
        DUE.is("BAD", GasTurn.BAD, -2);
        DUE.is("STATE", GasTurn.STATE, -3);
        DUE.is("FULL", GasTurn.FULL, -4);
    }

    private static void members() {
        int modifiers = GasTurn.class.getModifiers();
        DUE.holds("1: public and final", Modifier.isPublic(modifiers) && Modifier.isFinal(modifiers));
        int constants = 0;
        for (Field f : GasTurn.class.getDeclaredFields()) {
            if (Modifier.isPublic(f.getModifiers())) constants++;
            else DUE.holds("1: private " + f.getName(), Modifier.isPrivate(f.getModifiers()));
        }
        DUE.is("1: constants", constants, 4);
        Set<String> open = new TreeSet<>();
        List<Method> others = new ArrayList<>();
        for (Method m : GasTurn.class.getDeclaredMethods()) {
            if (Modifier.isPublic(m.getModifiers())) open.add(m.getName());
            else others.add(m);
        }
        for (Method m : others) DUE.holds("1: private " + m.getName(), Modifier.isPrivate(m.getModifiers()));
        Class<?>[] classes = GasTurn.class.getDeclaredClasses();
        DUE.holds("11: twelve classes at most", classes.length + 1 <= 12);
        for (Class<?> c : classes) {
            DUE.holds("2: static " + c.getName(), Modifier.isStatic(c.getModifiers()));
            others.addAll(List.of(c.getDeclaredMethods()));
            ownFields(c);
        }
        ownFields(GasTurn.class);
        for (Method m : others) {
            DUE.holds("1: no name of a public one: " + m.getName(), !open.contains(m.getName()));
            DUE.holds("11: parameters of " + m.getName(), m.getParameterCount() <= 7);
        }
        for (Constructor<?> c : GasTurn.class.getDeclaredConstructors()) {
            DUE.holds("1: the constructor", Modifier.isPublic(c.getModifiers()) && c.getParameterCount() == 0);
        }
    }

    private static void ownFields(Class<?> c) {
        int fields = 0;
        for (Field f : c.getDeclaredFields()) {
            if (Modifier.isStatic(f.getModifiers())) {
                DUE.holds("5: final " + f.getName(), Modifier.isFinal(f.getModifiers()));
            } else {
                fields++;
            }
        }
        DUE.holds("11: fields of " + c.getName(), fields <= 20);
    }

    private static String withoutCommentsAndTexts(String source) {
        return source.replaceAll("(?s)/\\*.*?\\*/", "").replaceAll("//.*", "").replaceAll("\"[^\"]*\"", "\"\"");
    }

    private static void words(String code) {
        String[] barred = {"throw", "throws", "try", "catch", "finally", "synchronized", "assert", "volatile",
            "transient", "native", "protected", "Object", "System\\.(?!arraycopy)", "Math\\.\\w*Exact", "hashCode",
            "Random", "Thread", "@\\w+", "new \\w+ *\\(\\) *\\{", "->", "::", "static *\\{", "\" *\\+", "\\+ *\""};
        for (String word : barred) {
            boolean sign = !Character.isLetter(word.charAt(0));
            String pattern = sign || word.contains("\\") || word.contains(" ") ? word : "\\b" + word + "\\b";
            DUE.holds("4, 6: no " + word, !Pattern.compile(pattern).matcher(code).find());
        }
        Matcher imports = Pattern.compile("(?m)^import (.*);$").matcher(code);
        while (imports.find()) {
            DUE.holds("4: import " + imports.group(1), imports.group(1).matches("java\\.util\\.(Arrays|ArrayList|List)"));
        }
        DUE.holds("no package", !Pattern.compile("\\bpackage\\b").matcher(code).find());
    }

    private static void lengths(String code) {
        int start = 0;
        String[] lines = code.split("\n");
        for (int i = 0; i < lines.length; i++) {
            if (lines[i].matches("( {4}| {8})[\\w\\[\\]]+[\\w\\[\\] ]*\\(.*\\) \\{")) start = i;
            if (lines[i].matches(" {4}\\}| {8}\\}")) DUE.holds("11: length of " + lines[start].trim(), i - start < 60);
        }
    }
}
