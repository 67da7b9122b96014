import java.io.IOException;
import java.lang.reflect.InvocationTargetException;
import java.lang.reflect.Method;
import java.lang.reflect.Modifier;
import java.nio.file.Files;
import java.nio.file.Path;
import java.util.ArrayList;
import java.util.List;
import java.util.Set;
import java.util.TreeSet;
import java.util.regex.Matcher;
import java.util.regex.Pattern;
import java.util.stream.Stream;

/** README.md: the calls of its example have the answers that it tells, its words are the document's, and it names the tests. */
public final class ReadmeHolds extends Checks {
    private static final String NEW_OBJECT = "FlumeRegistry x = new FlumeRegistry();";
    private static final Pattern WRITTEN = Pattern.compile("write\\(x, \"(.*)\"\\);");
    private static final Pattern CALL = Pattern.compile("x\\.(\\w+)\\((.*)\\); +// ([^:]+)(: .*)?");
    private static final Pattern SIGNATURE = Pattern.compile("`((\\w+) \\w+\\(.*?\\))( throws [\\w, ]+)?`: (.*)");

    public static void main(String[] args) throws IOException, ReflectiveOperationException {
        List<String> lines = Files.readAllLines(Path.of("README.md"));
        example(lines);
        calls(lines);
        terms(String.join("\n", lines));
        constants(lines);
        tests(String.join("\n", lines));
        end("the readme holds");
    }

    private static void example(List<String> lines) throws ReflectiveOperationException {
        Set<String> called = new TreeSet<>();
        FlumeRegistry x = new FlumeRegistry();
        int begin = lines.indexOf(NEW_OBJECT);
        sentence("the example of README.md");
        same("whether it begins with a new object", begin < 0 ? 0 : 1, 1);
        for (int at = Math.max(begin, 0); at < lines.size() && !lines.get(at).startsWith("```"); at++) {
            String line = lines.get(at);
            Matcher written = WRITTEN.matcher(line);
            Matcher call = CALL.matcher(line);
            sentence("README.md, line " + (at + 1));
            if (written.matches()) {
                write(x, written.group(1));
            } else if (call.matches()) {
                called.add(call.group(1));
                same(line, answer(x, call.group(1), call.group(2)), due(call.group(3)));
            } else {
                same("a line that is no call", line.isEmpty() || line.startsWith("// ") || line.equals(NEW_OBJECT) ? "" : line, "");
            }
        }
        sentence("the example of README.md");
        for (Method method : FlumeRegistry.class.getDeclaredMethods()) {
            boolean isCall = Modifier.isPublic(method.getModifiers());
            same("whether it has the call " + method.getName(), !isCall || called.contains(method.getName()) ? 1 : 0, 1);
        }
    }

    private static Object argument(String text) {
        if (text.startsWith("'")) {
            return text.charAt(1);
        }
        return text.equals("true") || text.equals("false") ? (Object) Boolean.valueOf(text) : (Object) Integer.valueOf(text);
    }

    private static String answer(FlumeRegistry x, String name, String listed) throws ReflectiveOperationException {
        String[] texts = listed.isEmpty() ? new String[0] : listed.split(", ");
        Object[] arguments = new Object[texts.length];
        for (int at = 0; at < texts.length; at++) {
            arguments[at] = argument(texts[at]);
        }
        for (Method method : FlumeRegistry.class.getDeclaredMethods()) {
            if (method.getName().equals(name) && method.getParameterCount() == arguments.length) {
                try {
                    Object answer = method.invoke(x, arguments);
                    return answer == null ? "nothing" : answer.toString();
                } catch (InvocationTargetException e) {
                    return "throws " + e.getCause().getClass().getSimpleName();
                }
            }
        }
        return "no such call";
    }

    /** What an answer of the example stands for: a number, a constant's name, the bits of a float, or other words. */
    private static String due(String told) throws ReflectiveOperationException {
        if (told.startsWith("the bits of ")) {
            return String.valueOf(Float.floatToRawIntBits(Float.parseFloat(told.substring(12))));
        }
        return told.matches("[A-Z]+") ? String.valueOf(FlumeRegistry.class.getField(told).getInt(null)) : told;
    }

    private static List<String> asInReadme(List<String> promise) {
        List<String> due = new ArrayList<>();
        Matcher signature = SIGNATURE.matcher(promise.get(0));
        same("whether it begins with a call", signature.matches() ? 1 : 0, 1);
        String words = signature.group(4);
        String answers = signature.group(2).equals("void") ? "nothing" : words.replaceFirst("Returns ", "");
        List<String> needs = new ArrayList<>();
        List<String> refusals = new ArrayList<>();
        for (String line : promise.subList(1, promise.size())) {
            if (line.startsWith("- ")) {
                needs.add("- needs " + line.substring(2));
            } else if (line.startsWith("Returns ")) {
                answers = line.substring(8);
            } else {
                refusals.add(line.replaceFirst("Throws ", "- throws "));
            }
        }
        due.add("**`" + signature.group(1) + "`** " + words);
        due.add("");
        due.addAll(needs.isEmpty() ? List.of("- needs nothing") : needs);
        due.add("- answers " + answers);
        due.addAll(refusals.isEmpty() ? List.of("- throws nothing") : refusals);
        due.add("");
        return due;
    }

    /** What each call needs, answers and throws stands in README.md in the document's words and order. */
    private static void calls(List<String> lines) {
        List<String> promise = new ArrayList<>();
        int from = 0;
        int count = 0;
        for (String line : Document.lines()) {
            if (line.startsWith("## ")) {
                if (promise.size() > 1) {
                    sentence("README.md, " + promise.get(0));
                    List<String> due = asInReadme(promise.subList(1, promise.size()));
                    int at = lines.indexOf(due.get(0));
                    same("whether it stands there, and behind the one before", at >= from ? 1 : 0, 1);
                    for (int next = 0; at >= 0 && next < due.size(); next++) {
                        same("its line", at + next < lines.size() ? lines.get(at + next) : "none", due.get(next));
                    }
                    from = Math.max(at, from);
                    count++;
                }
                promise.clear();
                // The constructor answers nothing, and is looked for by itself.
                if (line.startsWith("## Promise ") && !line.startsWith("## Promise 1:")) {
                    promise.add(line);
                }
            } else if (!promise.isEmpty() && !line.isBlank()) {
                promise.add(line);
            }
        }
        sentence("README.md");
        same("how many calls it tells of", count, 28);
        String maker = "`FlumeRegistry()`";
        String words = Document.sentences().stream().filter(line -> line.startsWith(maker + ": ")).findFirst().orElse("none");
        int at = lines.indexOf("**" + maker + "** " + words.substring(words.indexOf(':') + 2));
        same("whether it tells of a new object", at >= 0 ? 1 : 0, 1);
    }

    /** The document's terms stand in README.md, sentence by sentence in their order. */
    private static void terms(String readme) {
        List<String> sentences = Document.sentences();
        int from = sentences.indexOf("Texts, rains, runs, dams and sirens are told, hours pass; outputs, runs, levels, sirens and trust are asked.");
        int to = sentences.indexOf("Then it is the next hour.");
        sentence("README.md");
        same("whether the document has terms", from >= 0 && to > from ? 1 : 0, 1);
        int at = 0;
        for (int next = Math.max(from, 0); next <= to; next++) {
            int found = readme.indexOf(sentences.get(next), at);
            same("whether it has: " + sentences.get(next), found >= 0 ? 1 : 0, 1);
            at = Math.max(found, at);
        }
    }

    private static void constants(List<String> lines) {
        int count = 0;
        for (String words : Document.sentences()) {
            String constant = words.replaceFirst("The constants: ", "");
            if (constant.matches("`[A-Z]+ = .*")) {
                same("whether it has: " + constant, lines.contains("- " + constant) ? 1 : 0, 1);
                count++;
            }
        }
        same("how many lines of constants there are", count, 3);
    }

    private static void tests(String readme) throws IOException {
        same("whether it names the script", readme.contains("    .ci/run\n") ? 1 : 0, 1);
        try (Stream<Path> files = Files.list(Path.of("src/test/java"))) {
            for (Path file : files.toList()) {
                String name = file.getFileName().toString().replace(".java", "");
                same("whether it names the test " + name, readme.contains("`" + name + "`") ? 1 : 0, 1);
            }
        }
    }
}
