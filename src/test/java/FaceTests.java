import java.io.IOException;
import java.lang.reflect.Constructor;
import java.lang.reflect.Field;
import java.lang.reflect.Method;
import java.lang.reflect.Modifier;
import java.nio.file.Files;
import java.nio.file.Path;
import java.util.HashSet;
import java.util.List;
import java.util.Set;
import java.util.TreeSet;
import java.util.regex.Matcher;
import java.util.regex.Pattern;

/** The public face is the document's, and the source keeps to what of LANGUAGE.md can be read off it. */
public final class FaceTests {
    private static final Checks checks = new Checks();

    private static final List<String> FACE = List.of(
        "int sign(int)", "boolean end(int)", "int people()", "int rule()", "int one(int,int)",
        "int sheet(int,int,int,int)", "int minutes(int)", "int leads(int,int)", "int sacks(int,int)", "int steps(int)",
        "int turnsTo(int,int)", "int noon(int)", "int morning()", "int undo()", "int tips()", "int later(int,int)",
        "int decides()", "int spares()", "int swings()", "int level()", "int rest()", "int walks(int)", "int wall()",
        "int bears(int)", "int canvass()", "int clears()", "int heads()", "int power(int)", "int strongest()",
        "int just(int)", "int farthest()", "int line()", "int backs()", "int crowd()", "int seen(int,int,int)",
        "int forget()", "int cares(int)", "int looks(int)", "int heard(int,int)", "int denies()", "int fits()",
        "int asks()", "int faints(int)", "int plank(int,int)", "int law()", "int crossings(int)", "int years(int,int)",
        "boolean keep(int)", "boolean again(int)", "int count(int)", "long row(int)");

    public static void main(String[] args) throws IOException {
        face();
        insides();
        if (args.length > 0) {
            source(Files.readString(Path.of(args[0])));
        }
        checks.finish();
    }

    private static void face() {
        checks.about("rule 1");
        Class<?> type = VotingFloor.class;
        checks.is("public and final", type.getModifiers(), Modifier.PUBLIC | Modifier.FINAL);
        Set<String> open = new TreeSet<>();
        Set<String> openNames = new HashSet<>();
        for (Method method : type.getDeclaredMethods()) {
            if (Modifier.isPublic(method.getModifiers())) {
                open.add(told(method));
                openNames.add(method.getName());
            } else if (!Modifier.isPrivate(method.getModifiers())) {
                checks.fail("neither public nor private: " + method);
            }
        }
        if (!open.equals(new TreeSet<>(FACE))) {
            checks.fail("the face is " + open);
        }
        for (Method method : type.getDeclaredMethods()) {
            if (Modifier.isPrivate(method.getModifiers()) && openNames.contains(method.getName())) {
                checks.fail("a private method bears a public name: " + method);
            }
        }
        for (Field field : type.getDeclaredFields()) {
            boolean constant = field.getName().equals("NONE");
            checks.is(field.getName() + " is public", Modifier.isPublic(field.getModifiers()), constant);
            checks.is(field.getName() + " is private", Modifier.isPrivate(field.getModifiers()), !constant);
        }
        for (Constructor<?> constructor : type.getDeclaredConstructors()) {
            checks.is("parameters of the constructor", constructor.getParameterCount(), 0);
            checks.is("the constructor is public", Modifier.isPublic(constructor.getModifiers()), true);
        }
    }

    private static String told(Method method) {
        StringBuilder text = new StringBuilder(method.getReturnType().getName() + " " + method.getName() + "(");
        for (Class<?> parameter : method.getParameterTypes()) {
            text.append(text.charAt(text.length() - 1) == '(' ? "" : ",").append(parameter.getName());
        }
        return text + ")";
    }

    private static void insides() {
        checks.about("rules 1, 5, 11");
        Class<?>[] inside = VotingFloor.class.getDeclaredClasses();
        checks.is("at most twelve classes", inside.length + 1 <= 12, true);
        fieldsOf(VotingFloor.class);
        for (Class<?> type : inside) {
            checks.is(type + " is static", Modifier.isStatic(type.getModifiers()), true);
            checks.is(type + " has no class inside", type.getDeclaredClasses().length, 0);
            fieldsOf(type);
            for (Method method : type.getDeclaredMethods()) {
                checks.is(method + ": at most seven parameters", method.getParameterCount() <= 7, true);
                for (String call : FACE) {
                    if (call.contains(" " + method.getName() + "(")) {
                        checks.fail("bears a public name: " + method);
                    }
                }
            }
        }
    }

    private static void fieldsOf(Class<?> type) {
        int own = 0;
        for (Field field : type.getDeclaredFields()) {
            int modifiers = field.getModifiers();
            own += Modifier.isStatic(modifiers) ? 0 : 1;
            checks.is(field + ": static ones are final", Modifier.isStatic(modifiers) && !Modifier.isFinal(modifiers), false);
        }
        checks.is(type + " has at most twenty fields", own <= 20, true);
    }

    private static void source(String text) {
        checks.about("rules 2 to 13");
        for (int k = 0; k < text.length(); k++) {
            if (text.charAt(k) > 127) {
                checks.fail("a sign above 127 at " + k);
            }
        }
        String code = text.replaceAll("(?s)/\\*.*?\\*/", " ").replaceAll("//[^\n]*", " ");
        Matcher imports = Pattern.compile("\\bimport\\s+([\\w.]+)").matcher(code);
        while (imports.find()) {
            checks.is("import " + imports.group(1), imports.group(1).equals("java.util.NoSuchElementException"), true);
        }
        String[] never = {
            "->", "::", "\\btry\\b", "\\bcatch\\b", "\\bfinally\\b", "\\bsynchronized\\b", "\\bassert\\b",
            "\\bpackage\\b", "\\bprotected\\b", "\\bSystem\\.(?!arraycopy)", "\\bThread\\b", "\\bRandom\\b",
            "\\bgetClass\\b", "\\bhashCode\\b", "\\btoString\\b", "\\bnative\\b", "\\bvolatile\\b", "Exact\\(",
            "\\bvar\\b", "\\bwhile\\b", "\\bdouble\\b", "\\bfloat\\b",
        };
        for (String sign : never) {
            checks.is("no " + sign, Pattern.compile(sign).matcher(code).find(), false);
        }
        Matcher thrown = Pattern.compile("throw\\s+(new\\s+\\w+)").matcher(code);
        while (thrown.find()) {
            checks.is(thrown.group(), thrown.group(1).equals("new NoSuchElementException"), true);
        }
        // rows are made in the constructors alone, as fields, so that no call fills the room
        Matcher made = Pattern.compile("(?m)^(.*)\\bnew\\b").matcher(code);
        while (made.find()) {
            boolean field = made.group(1).contains("final ") || made.group(1).contains("throw ");
            checks.is("made as a field: " + made.group(), field, true);
        }
        lengths(text);
    }

    /** Methods stay short; a method begins by a line that ends with ) {, so far in as methods are. */
    private static void lengths(String text) {
        int start = -1;
        String indent = "";
        String[] lines = text.split("\n");
        Pattern head = Pattern.compile("^( {4}| {8})(?! )(?!if|for|switch|while).*\\) (throws \\w+ )?\\{$");
        for (int k = 0; k < lines.length; k++) {
            Matcher matcher = head.matcher(lines[k]);
            if (start < 0 && matcher.find()) {
                start = k;
                indent = matcher.group(1);
            } else if (start >= 0 && lines[k].equals(indent + "}")) {
                checks.is("lines of " + lines[start].trim(), k - start + 1 <= 60, true);
                start = -1;
            }
        }
    }
}
