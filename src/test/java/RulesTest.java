import java.io.IOException;
import java.lang.reflect.Field;
import java.lang.reflect.Method;
import java.nio.file.Files;
import java.nio.file.Path;
import java.util.ArrayList;
import java.util.List;
import java.util.regex.Matcher;
import java.util.regex.Pattern;

/** What of the rules of ../shared/LANGUAGE.md can be read off the text of the class, or off its shape. */
public final class RulesTest {
    private static final Path SOURCE = Path.of("src", "main", "java", "SoulRaffle.java");

    private final Checks c = new Checks();
    private final String bare;

    private RulesTest(String source) {
        // comments and texts aside
        bare = source.replaceAll("(?s)/\\*.*?\\*/", "").replaceAll("//[^\n]*", "").replaceAll("\"[^\"\n]*\"", "\"\"")
            .replaceAll("'[^'\n]'", "' '");
    }

    public static void main(String[] args) throws IOException {
        String source = Files.readString(SOURCE);
        RulesTest t = new RulesTest(source);
        t.signs(source);
        t.words();
        t.imports();
        t.library();
        t.exceptions();
        t.staticFields();
        t.methods();
        t.classes();
        t.rowsInConstructorsAlone();
        t.c.end("RulesTest");
    }

    private void signs(String source) {
        for (int i = 0; i < source.length(); i++) {
            char sign = source.charAt(i);
            if (sign != '\n' && (sign < 32 || sign > 126)) {
                c.is("sign " + (int) sign + " at " + i, true, false);
            }
        }
        c.is("no package line", Pattern.compile("^package ", Pattern.MULTILINE).matcher(source).find(), false);
    }

    private void never(String regex) {
        Matcher m = Pattern.compile(regex).matcher(bare);
        is("'" + regex + "'", m.find() ? bare.substring(m.start(), Math.min(bare.length(), m.end() + 20)) : "", "");
    }

    private void words() {
        for (String word : new String[] {"->", "::", "\\bfinally\\b", "\\bsynchronized\\b", "\\bassert\\b", "\\bcatch\\b", "\\btry\\b",
            "\\binstanceof\\b", "\\bvar\\b", "\\byield\\b", "\\bvolatile\\b", "\\bnative\\b", "\\bprotected\\b", "\\bdouble\\b",
            "\\bfloat\\b", "\\bObject\\b", "\\bThread\\b", "\\bSystem\\b", "\\bRandom\\b", "Exact\\(", "\\bequals\\(", "\\bhashCode\\b",
            "\\btoString\\b", "\\bstatic \\{", "\\bwhile \\(true\\)", "\\bfor \\(;;\\)", "@Suppress", "\\bgetClass\\b"}) {
            never(word);
        }
    }

    private void imports() {
        Matcher m = Pattern.compile("import ([\\w.*]+);").matcher(bare);
        while (m.find()) {
            c.is("import " + m.group(1), m.group(1).equals("java.util.NoSuchElementException"), true);
        }
    }

    /** Names with a large first letter ahead of a point: own classes, or those of the library that the rules list. */
    private void library() {
        Matcher m = Pattern.compile("\\b([A-Z][A-Za-z]*[a-z])\\.(\\w+)\\(").matcher(bare);
        int found = 0;
        while (m.find()) {
            String call = m.group(1) + "." + m.group(2);
            c.is(call, call.matches("Math\\.(max|min)|Integer\\.bitCount|Word\\.values"), true);
            found++;
        }
        c.is("calls of the library", found > 0, true);
    }

    private void exceptions() {
        Matcher m = Pattern.compile("\\bthrow ([^;]*);").matcher(bare);
        int found = 0;
        while (m.find()) {
            is("throw", m.group(1), "new NoSuchElementException(\"\")");
            found++;
        }
        c.is("throws", found, 2);
    }

    private void is(String what, String got, String due) {
        c.is(what + ": '" + got + "'", got.equals(due), true);
    }

    private void staticFields() {
        Matcher m = Pattern.compile("\n *(?:public |private )?static (?!final class|class)([^(;={]*)(=|;)").matcher(bare);
        while (m.find()) {
            c.is("static " + m.group(1), m.group(1).startsWith("final "), true);
        }
    }

    /** From a head with its brace to the line that closes it. */
    private void methods() {
        String[] lines = bare.split("\n");
        int found = 0;
        for (int i = 0; i < lines.length; i++) {
            Matcher head = Pattern.compile("^( +)(?:public |private |static |final )*[\\w<>\\[\\]]+ ?\\w*\\(([^()]*)\\)[^;=]*\\{$")
                .matcher(lines[i]);
            boolean isMethod = head.find() && !lines[i].trim().matches("(if|for|while|switch|else|\\}|do).*");
            if (isMethod) {
                int end = i + 1;
                while (end < lines.length && !lines[end].equals(head.group(1) + "}")) {
                    end++;
                }
                c.is(lines[i].trim() + " has " + (end - i + 1) + " lines", end - i + 1 <= 60, true);
                c.is(lines[i].trim() + " has few parameters", head.group(2).split(",").length <= 7, true);
                found++;
            }
        }
        c.is("methods", found > 100, true);
    }

    private void classes() {
        List<Class<?>> all = new ArrayList<>(List.of(SoulRaffle.class.getDeclaredClasses()));
        all.add(SoulRaffle.class);
        c.is("classes", all.size() <= 12, true);
        for (Class<?> one : all) {
            int fields = 0;
            for (Field field : one.getDeclaredFields()) {
                fields += java.lang.reflect.Modifier.isStatic(field.getModifiers()) ? 0 : 1;
            }
            c.is(one + " has " + fields + " fields", fields <= 20, true);
            for (Method method : one.getDeclaredMethods()) {
                boolean isOwn = !method.isSynthetic() && !method.getName().equals("valueOf");
                c.is(method + " is of its own name", isOwn && method.getName().matches("equals|hashCode|toString"), false);
            }
        }
    }

    /** What is made is made in constructors and initialisers, but for exceptions. */
    private void rowsInConstructorsAlone() {
        Matcher m = Pattern.compile("\n([^\n]*\\bnew [^\n]*)").matcher(bare);
        String constructor = bare.substring(bare.indexOf("public SoulRaffle()"), bare.indexOf("public int feed"));
        while (m.find()) {
            String line = m.group(1).trim();
            boolean isField = line.matches("private (static )?final .*= new .*;");
            c.is(line, isField || line.startsWith("throw new") || constructor.contains(line), true);
        }
    }
}
