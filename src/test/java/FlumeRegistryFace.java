import java.io.IOException;
import java.lang.reflect.Constructor;
import java.lang.reflect.Field;
import java.lang.reflect.Method;
import java.lang.reflect.Modifier;
import java.nio.file.Files;
import java.nio.file.Path;
import java.util.List;
import java.util.Set;
import java.util.TreeSet;
import java.util.regex.Matcher;
import java.util.regex.Pattern;

/** The public face as the document writes it, and the rules of the language that can be seen in the source. */
public final class FlumeRegistryFace {
    private static final String[] FACE = {
        "FlumeRegistry()",
        "int type(char) IllegalArgumentException IllegalStateException",
        "int wipe()",
        "int fault(boolean)",
        "int publish(int) IndexOutOfBoundsException IllegalArgumentException IllegalStateException",
        "int retire(int) IndexOutOfBoundsException IllegalStateException",
        "int latest(int) IndexOutOfBoundsException",
        "int pin(int,int) IndexOutOfBoundsException",
        "int rain(int,int,int) IndexOutOfBoundsException IllegalArgumentException",
        "int out(int,int) IndexOutOfBoundsException IllegalArgumentException",
        "int outAnew(int,int) IndexOutOfBoundsException IllegalArgumentException",
        "int run(int,int) IndexOutOfBoundsException IllegalArgumentException IllegalStateException",
        "int why(int) IndexOutOfBoundsException",
        "int peak(int) IndexOutOfBoundsException",
        "int peakHour(int) IndexOutOfBoundsException",
        "int peakAnew(int) IndexOutOfBoundsException",
        "void build(int,int,int) IndexOutOfBoundsException IllegalArgumentException IllegalStateException",
        "void rule(int) IndexOutOfBoundsException IllegalArgumentException IllegalStateException",
        "void goBy(int,int) IndexOutOfBoundsException IllegalStateException",
        "int level(int) IndexOutOfBoundsException",
        "int below(int,int) IndexOutOfBoundsException IllegalArgumentException",
        "void valley(int,int,int,int) IndexOutOfBoundsException IllegalArgumentException IllegalStateException",
        "int sound(int,int) IndexOutOfBoundsException IllegalStateException",
        "int siren(int) IndexOutOfBoundsException",
        "int walkers(int) IndexOutOfBoundsException",
        "int trust(int) IndexOutOfBoundsException",
        "int saved(int) IndexOutOfBoundsException",
        "int alarm()",
        "int pass(int) IllegalArgumentException IllegalStateException",
        "static int NONE", "static int STANDS", "static int MENDED", "static int RAINED",
        "static int RINGS", "static int RIGHT", "static int WRONG", "static int WITHDRAWN"
    };

    /** What rules 2 to 6 and 10 to 13 leave out, as far as a word shows it. */
    private static final String[] LEFT_OUT = {
        "\\bimport\\b", "\\bpackage\\b", "->", "::", "\\bsynchronized\\b", "\\bassert\\b", "\\bfinally\\b", "\\bcatch\\b",
        "\\bFloat\\b", "\\bDouble\\b", "\\bLong\\b", "\\bSystem\\b", "\\bObject\\b", "Exact\\b", "\\bhashCode\\b", "\\btoString\\b",
        "\\binstanceof\\b", "\\bvar\\b", "\\?\\?", "\"\\s*\\+", "\\+\\s*\"", "[^\\x00-\\x7f]", "static\\s*\\{",
        "static final (float|double|String\\[|float\\[)", "static (?!final|int |boolean |float |class)"
    };

    private static String sorted(Class<?>[] exceptions) {
        StringBuilder text = new StringBuilder();
        for (Class<?> exception : exceptions) {
            text.append(' ').append(exception.getSimpleName());
        }
        return text.toString();
    }

    private static String parameters(Class<?>[] parameters) {
        StringBuilder text = new StringBuilder("(");
        for (Class<?> parameter : parameters) {
            text.append(text.length() > 1 ? "," : "").append(parameter.getSimpleName());
        }
        return text.append(')').toString();
    }

    private static Set<String> face() {
        Set<String> found = new TreeSet<>();
        for (Constructor<?> one : FlumeRegistry.class.getDeclaredConstructors()) {
            found.add("FlumeRegistry" + parameters(one.getParameterTypes()) + sorted(one.getExceptionTypes()));
        }
        for (Method one : FlumeRegistry.class.getDeclaredMethods()) {
            if (!Modifier.isPrivate(one.getModifiers())) {
                String kind = Modifier.isPublic(one.getModifiers()) ? "" : "not public ";
                found.add(kind + one.getReturnType() + " " + one.getName() + parameters(one.getParameterTypes()) + sorted(one.getExceptionTypes()));
            }
        }
        for (Field one : FlumeRegistry.class.getDeclaredFields()) {
            if (!Modifier.isPrivate(one.getModifiers())) {
                String kind = Modifier.isPublic(one.getModifiers()) ? "" : "not public ";
                found.add(kind + (Modifier.isStatic(one.getModifiers()) ? "static " : "") + one.getType() + " " + one.getName());
            }
        }
        return found;
    }

    private static int namesakes() {
        int count = 0;
        Set<String> open = new TreeSet<>();
        for (Method one : FlumeRegistry.class.getDeclaredMethods()) {
            if (Modifier.isPublic(one.getModifiers())) {
                open.add(one.getName());
            }
        }
        for (Class<?> inside : FlumeRegistry.class.getDeclaredClasses()) {
            for (Method one : inside.getDeclaredMethods()) {
                if (open.contains(one.getName())) {
                    System.out.println(inside.getSimpleName() + " has a method with the public name " + one.getName());
                    count++;
                }
            }
        }
        for (Method one : FlumeRegistry.class.getDeclaredMethods()) {
            if (Modifier.isPrivate(one.getModifiers()) && open.contains(one.getName())) {
                System.out.println("a private method has the public name " + one.getName());
                count++;
            }
        }
        return count;
    }

    private static int leftOut() throws IOException {
        int count = 0;
        String[] lines = Files.readString(Path.of("src/main/java/FlumeRegistry.java")).split("\n");
        for (int at = 0; at < lines.length; at++) {
            String line = lines[at].replaceAll("//.*|^\\s*/\\*\\*.*", "").replace("\"+-*/(),.\"", "");
            for (String word : LEFT_OUT) {
                Matcher matcher = Pattern.compile(word).matcher(line);
                if (matcher.find()) {
                    System.out.println("line " + (at + 1) + " has " + matcher.group());
                    count++;
                }
            }
        }
        return count;
    }

    private static int complain(String what) {
        System.out.println(what);
        return 1;
    }

    /** Rules 3, 5 and 11, as far as they can be seen in the classes. */
    private static int outOfRules(Class<?> one) {
        int count = 0;
        int fields = 0;
        for (Field field : one.getDeclaredFields()) {
            String of = one.getSimpleName() + "." + field.getName();
            Class<?> type = field.getType();
            boolean isStatic = Modifier.isStatic(field.getModifiers());
            fields += isStatic ? 0 : 1;
            if (isStatic && (!Modifier.isFinal(field.getModifiers()) || type != int.class)) {
                count += complain(of + " is static, and no constant");
            }
            for (int dimension = 0; dimension < 2 && type.isArray(); dimension++) {
                type = type.getComponentType();
            }
            boolean isOwn = type.getEnclosingClass() == FlumeRegistry.class;
            if (!type.isPrimitive() && (!isOwn || field.getType().getName().startsWith("[["))) {
                count += complain(of + " is of a type that is left out");
            }
        }
        for (Method method : one.getDeclaredMethods()) {
            if (method.getParameterCount() > 7) {
                count += complain(method.getName() + " has too many parameters");
            }
        }
        return count + (fields > 20 ? complain(one.getSimpleName() + " has too many fields") : 0);
    }

    /** Rule 11: methods stay short; one begins and ends at the same depth. */
    private static int tooLong() throws IOException {
        int count = 0;
        int begin = 0;
        String[] lines = Files.readString(Path.of("src/main/java/FlumeRegistry.java")).split("\n");
        for (int at = 0; at < lines.length; at++) {
            begin = lines[at].matches("( {4}| {8})[a-zA-Z].*\\(.*\\{") ? at : begin;
            if (lines[at].matches("( {4}| {8})\\}") && at - begin > 60) {
                count += lines[begin].contains(" class ") ? 0 : complain("line " + (begin + 1) + " begins a method that is too long");
            }
        }
        return count;
    }

    /** The face stands in the source in the document's own lines and order. */
    private static int outOfFace() throws IOException {
        int count = 0;
        int next = 0;
        List<String> lines = Files.readAllLines(Path.of("src/main/java/FlumeRegistry.java"));
        for (String line : Document.code()) {
            boolean isBody = line.endsWith(");") || line.contains(") throws ");
            String due = isBody ? line.substring(0, line.length() - 1) + " {" : line;
            int at = next;
            while (at < lines.size() && !lines.get(at).equals(due)) {
                at++;
            }
            count += at == lines.size() ? complain("the face lacks, behind line " + next + ": " + due) : 0;
            next = at < lines.size() ? at + 1 : next;
        }
        return count + (next == 0 ? complain("the document has no face") : 0);
    }

    public static void main(String[] args) throws IOException {
        Set<String> due = new TreeSet<>(Set.of(FACE));
        Set<String> found = face();
        int wrong = namesakes() + leftOut() + tooLong() + outOfFace() + outOfRules(FlumeRegistry.class);
        for (Class<?> inside : FlumeRegistry.class.getDeclaredClasses()) {
            wrong += outOfRules(inside);
        }
        if (!found.equals(due)) {
            wrong++;
            Set<String> more = new TreeSet<>(found);
            more.removeAll(due);
            due.removeAll(found);
            System.out.println("the face lacks " + due + ", and has " + more);
        }
        int modifiers = FlumeRegistry.class.getModifiers();
        if (!Modifier.isPublic(modifiers) || !Modifier.isFinal(modifiers)) {
            wrong++;
            System.out.println("the class is not public and final");
        }
        if (FlumeRegistry.class.getDeclaredClasses().length > 12) {
            wrong++;
            System.out.println("there are too many classes");
        }
        System.out.println(wrong == 0 ? "the face is as due" : wrong + " things are not as due");
        if (wrong != 0) {
            System.exit(1);
        }
    }
}
