import java.io.IOException;
import java.lang.reflect.Field;
import java.lang.reflect.Method;
import java.lang.reflect.Modifier;
import java.nio.charset.StandardCharsets;
import java.nio.file.Files;
import java.nio.file.Path;
import java.util.ArrayList;
import java.util.List;
import java.util.Set;
import java.util.TreeSet;
import java.util.regex.Pattern;

/** The document's face, and those rules of ../shared/LANGUAGE.md that a test can see. */
public final class RulesTest {
    private static final Due DUE = new Due("RulesTest");
    private static final Path SOURCE = Path.of("src/main/java/BedHouse.java");
    private static final Path DOCUMENT = Path.of("../shared/DOC.md");

    private static final String[] FACE = {
        "type(long,int)", "clear()", "house()", "panel(int,int)", "slot(int,int)", "told(int)", "beam(int)",
        "down(int)", "up(int,int)", "night()", "now(int)", "lit(int)", "fewest(int)", "first(int)",
        "nights(int)", "piano(int)", "best(int)", "clue(int,int)", "fit()", "sure(int)", "forget()",
        "mark(int,int)", "keep(int)", "back(int)", "count(int)", "trace()"};

    private static final String[] FORBIDDEN = {
        "\\bthrow\\b", "\\btry\\b", "\\bcatch\\b", "\\bsynchronized\\b", "\\bassert\\b", "->", "::",
        "\\bimport\\b", "\\bpackage\\b", "\\bprotected\\b", "\\bvar\\b", "Exact\\(", "\\bSystem\\.(?!arraycopy)",
        "\\bThread\\b", "\\bRandom\\b", "\\bequals\\s*\\(", "\\bhashCode\\b", "\\btoString\\b", "\\bstatic\\s*\\{"};

    // What the interface says ahead of which call.
    private static final String[] HEADINGS = {"type:the house", "down:acts and nights",
        "fewest:from this house to that", "clue:a letter", "mark:kinds, images"};

    public static void main(String[] args) throws IOException {
        face();
        for (Class<?> inside : BedHouse.class.getDeclaredClasses()) {
            DUE.holds(inside + " is static", Modifier.isStatic(inside.getModifiers()));
            DUE.holds(inside + " is private", Modifier.isPrivate(inside.getModifiers()));
            members(inside);
        }
        members(BedHouse.class);
        String code = withoutComments(Files.readString(SOURCE, StandardCharsets.US_ASCII));
        for (String pattern : FORBIDDEN) {
            DUE.holds("the source has no " + pattern, !Pattern.compile(pattern).matcher(code).find());
        }
        methodLengths(code);
        nothingIsMadeByCalls(code);
        faceOfTheDocument();
        DUE.close();
    }

    private static void face() {
        Set<String> due = new TreeSet<>(Set.of(FACE));
        Set<String> open = new TreeSet<>();
        for (Method method : BedHouse.class.getDeclaredMethods()) {
            if (!Modifier.isPrivate(method.getModifiers())) {
                open.add(signature(method));
                boolean isLong = method.getName().equals("trace");
                DUE.holds(method + " answers", method.getReturnType() == (isLong ? long.class : int.class));
                DUE.holds(method + " is public", Modifier.isPublic(method.getModifiers()));
            }
        }
        DUE.holds("the methods " + open, open.equals(due));
        Set<String> constants = new TreeSet<>();
        for (Field field : BedHouse.class.getDeclaredFields()) {
            if (!Modifier.isPrivate(field.getModifiers())) {
                constants.add(field.getName());
            }
        }
        DUE.holds("the constants " + constants,
            constants.equals(Set.of("BAD", "STATE", "FULL", "NONE", "NO")));
        DUE.is("constructors", 1, BedHouse.class.getDeclaredConstructors().length);
        DUE.holds("final", Modifier.isFinal(BedHouse.class.getModifiers()));
    }

    /** The document's lines of constants and calls, and its headings of them, stand in the source in their order. */
    private static void faceOfTheDocument() throws IOException {
        List<String> due = new ArrayList<>();
        boolean inside = false;
        for (String line : Files.readAllLines(DOCUMENT)) {
            if (line.startsWith("```")) {
                inside = line.equals("```java");
            } else if (inside && line.matches("    public .*;")) {
                headingAhead(line, due);
                due.add(line.contains(" static ") ? line : line.replace(";", " {"));
            }
        }
        DUE.is("constants, the constructor, calls and headings", 2 + 1 + FACE.length + HEADINGS.length, due.size());
        List<String> source = Files.readAllLines(SOURCE);
        int at = 0;
        for (String line : due) {
            int found = source.subList(at, source.size()).indexOf(line);
            DUE.holds("in its place: " + line, found >= 0);
            at += Math.max(0, found);
        }
    }

    private static void headingAhead(String line, List<String> due) {
        for (String heading : HEADINGS) {
            String call = heading.substring(0, heading.indexOf(':'));
            if (line.contains(" " + call + "(")) {
                due.add("    // ---- " + heading.substring(call.length() + 1) + ".");
            }
        }
    }

    private static String signature(Method method) {
        StringBuilder signature = new StringBuilder(method.getName()).append('(');
        for (Class<?> type : method.getParameterTypes()) {
            signature.append(signature.charAt(signature.length() - 1) == '(' ? "" : ",").append(type.getName());
        }
        return signature.append(')').toString();
    }

    private static void members(Class<?> owner) {
        Set<String> publicNames = new TreeSet<>();
        for (String signature : FACE) {
            publicNames.add(signature.substring(0, signature.indexOf('(')));
        }
        for (Method method : owner.getDeclaredMethods()) {
            if (owner != BedHouse.class || Modifier.isPrivate(method.getModifiers())) {
                DUE.holds(method + " has a name of its own", !publicNames.contains(method.getName()));
            }
            DUE.holds(method + " takes seven at most", method.getParameterCount() <= 7);
        }
        int fields = 0;
        for (Field field : owner.getDeclaredFields()) {
            if (Modifier.isStatic(field.getModifiers())) {
                DUE.holds(field + " is a constant", Modifier.isFinal(field.getModifiers())
                    && field.getType() == int.class);
            } else {
                fields++;
            }
        }
        DUE.holds(owner + " has twenty fields at most", fields <= 20);
    }

    private static String withoutComments(String source) {
        return source.replaceAll("(?s)/\\*.*?\\*/", "").replaceAll("//[^\n]*", "").replaceAll("\"[^\"\n]*\"", "\"\"");
    }

    /** A method begins with a line that has parentheses and ends with {, and ends with a } as far in. */
    private static void methodLengths(String code) {
        String[] lines = code.split("\n");
        int begin = -1;
        String end = "";
        for (int i = 0; i < lines.length; i++) {
            String line = lines[i];
            if (begin < 0 && line.matches("\\s+(public|private)\\b.*\\).*\\{")) {
                begin = i;
                end = line.replaceAll("\\S.*", "") + "}";
            } else if (begin >= 0 && line.equals(end)) {
                DUE.holds(lines[begin].trim() + " has some sixty lines at most", i - begin < 60);
                begin = -1;
            }
        }
    }

    /** All that is ever made is made with the object, so 512 calls need no more room than none. */
    private static void nothingIsMadeByCalls(String code) {
        for (String line : code.split("\n")) {
            if (line.matches(".*\\bnew\\b.*")) {
                DUE.holds("made with the object: " + line.trim(),
                    line.matches("\\s+private (final )?\\w+(\\[\\])? \\w+ = .*;"));
            }
        }
    }
}
