import java.lang.reflect.Constructor;
import java.lang.reflect.Field;
import java.lang.reflect.Method;
import java.lang.reflect.Modifier;
import java.nio.charset.StandardCharsets;
import java.nio.file.Files;
import java.nio.file.Paths;
import java.util.Set;
import java.util.TreeSet;
import java.util.regex.Matcher;
import java.util.regex.Pattern;

/** The public face, promise 1 and what of LANGUAGE.md can be seen by reading. */
public final class FaceTest {
    private static final Due DUE = new Due("FaceTest");
    private static final String[] FACE = {
        "target(int,int,int,int,int)", "bounds(int,int,int)", "guards(int)", "of(int,int)", "drop()",
        "best()", "worth()", "prize()", "share(int)", "below()", "put(int,int)", "spare()", "comes()",
        "handWorth()", "errs(int)", "lots()", "team(int)", "chance(int)", "road(int,int,int)",
        "bar(int,boolean)", "shortest(int,int)", "bars(int,int,int)", "post(int)", "every(int,int)",
        "visit(int)", "haunt(int,int)", "caught(int)", "traps(int)", "cover()", "sheet(int,int,int)",
        "write(int,int,int)", "handFrom(int,int,int)", "keep()", "back()", "count(int)"};

    public static void main(String[] args) throws Exception {
        members();
        faceOfDocument();
        headings();
        source();
        newObject();
        DUE.end();
    }

    private static void members() {
        Set<String> want = new TreeSet<>();
        Set<String> names = new TreeSet<>();
        for (String method : FACE) {
            want.add("int " + method);
            names.add(method.substring(0, method.indexOf('(')));
        }
        Set<String> got = new TreeSet<>();
        for (Method method : GuardDesk.class.getDeclaredMethods()) {
            if (method.isSynthetic()) {
                continue;
            }
            if (Modifier.isPrivate(method.getModifiers())) {
                DUE.holds("private " + method.getName() + " has a name of its own",
                    !names.contains(method.getName()));
                continue;
            }
            DUE.is("modifiers of " + method, method.getModifiers(), Modifier.PUBLIC);
            StringBuilder told = new StringBuilder();
            for (Class<?> parameter : method.getParameterTypes()) {
                told.append(told.length() == 0 ? "" : ",").append(parameter);
            }
            got.add(method.getReturnType() + " " + method.getName() + "(" + told + ")");
        }
        DUE.holds("the face is " + got, got.equals(want));
        for (Field field : GuardDesk.class.getDeclaredFields()) {
            DUE.holds("private " + field, Modifier.isPrivate(field.getModifiers()));
        }
        Constructor<?>[] made = GuardDesk.class.getDeclaredConstructors();
        DUE.is("constructors", made.length, 1);
        DUE.is("the constructor's parameters", made[0].getParameterCount(), 0);
        DUE.holds("public constructor", Modifier.isPublic(made[0].getModifiers()));
        DUE.is("the class's modifiers", GuardDesk.class.getModifiers(),
            Modifier.PUBLIC | Modifier.FINAL);
        nested(names);
    }

    private static void nested(Set<String> names) {
        Class<?>[] inside = GuardDesk.class.getDeclaredClasses();
        DUE.holds("at most eleven classes inside", inside.length <= 11);
        for (Class<?> one : inside) {
            int modifiers = one.getModifiers();
            DUE.holds("static " + one, Modifier.isStatic(modifiers));
            DUE.holds("private " + one, Modifier.isPrivate(modifiers));
            for (Method method : one.getDeclaredMethods()) {
                DUE.holds(method + " has a name of its own", !names.contains(method.getName()));
                DUE.holds(method + " takes seven at most", method.getParameterCount() <= 7);
            }
        }
    }

    /** The list above is the document's, and the class has its calls in this order. */
    private static void faceOfDocument() throws Exception {
        String source = sourceText();
        int before = -1;
        int i = 0;
        Matcher line = Pattern.compile("public int \\w+\\([^)]*\\)").matcher(
            Document.text("The public face"));
        while (line.find()) {
            String call = line.group();
            String types = call.substring("public int ".length()).replaceAll("(int|boolean) \\w+", "$1");
            DUE.holds("call " + i + " of the document's face is " + types,
                i < FACE.length && FACE[i].equals(types.replace(", ", ",")));
            int at = source.indexOf(call + " {");
            DUE.holds(call + " stands in its place", at > before);
            before = at;
            i++;
        }
        DUE.is("calls of the document's face", i, FACE.length);
    }

    /** "Ahead of the calls .. the interface says: ---- targets." */
    private static void headings() throws Exception {
        String source = sourceText();
        Matcher heading = Pattern.compile("Ahead of the calls (.*) the interface says: (---- .*)\\.").matcher(
            Document.text("Terms"));
        int headings = 0;
        while (heading.find()) {
            int at = source.indexOf("// " + heading.group(2) + "\n");
            DUE.holds("the class says " + heading.group(2), at >= 0);
            int next = source.indexOf("// ---- ", at + 1);
            String part = source.substring(Math.max(at, 0), next < 0 ? source.length() : next);
            for (String name : heading.group(1).replace("`", "").split(", ")) {
                DUE.holds(name + " stands behind " + heading.group(2),
                    part.contains("public int " + name + "("));
            }
            headings++;
        }
        DUE.is("headings of the document", headings, 8);
    }

    private static String sourceText() throws Exception {
        byte[] bytes = Files.readAllBytes(Paths.get("src/main/java/GuardDesk.java"));
        return new String(bytes, StandardCharsets.ISO_8859_1);
    }

    private static void source() throws Exception {
        String text = sourceText();
        String code = text.replaceAll("(?s)/\\*.*?\\*/", "").replaceAll("//[^\n]*", "");
        String[] words = {"throw", "throws", "try", "catch", "finally", "synchronized", "assert",
            "package", "Object", "HashMap", "Random", "Thread", "hashCode", "toString"};
        for (String word : words) {
            DUE.holds("no " + word, !Pattern.compile("\\b" + word + "\\b").matcher(code).find());
        }
        DUE.holds("no lambda", !code.contains("->"));
        DUE.holds("no method reference", !code.contains("::"));
        Matcher imports = Pattern.compile("import ([^;]*);").matcher(code);
        while (imports.find()) {
            DUE.holds("import " + imports.group(1), imports.group(1).equals("java.util.Arrays"));
        }
        DUE.holds("plain signs alone", text.matches("[\\n -~]*"));
    }

    private static void newObject() {
        GuardDesk x = new GuardDesk();
        int[] counts = {0, 1, 0, 0, 0, 0, 0};
        for (int what = 0; what < counts.length; what++) {
            DUE.is("count(" + what + ") of a new object", x.count(what), counts[what]);
        }
        DUE.is("below() of a new object", x.below(), 1);
        DUE.is("spare() of a new object", x.spare(), -60);
        DUE.is("of(0, 0) of a new object", x.of(0, 0), Due.BAD);
        DUE.is("bar(0, true) of a new object", x.bar(0, true), Due.BAD);
        DUE.is("every(0, 1) of a new object", x.every(0, 1), Due.BAD);
        DUE.is("caught(1023) of a new object", x.caught(1023), 0);
        DUE.is("shortest(0, 1) of a new object", x.shortest(0, 1), Due.NONE);
        for (int s = 0; s < 4; s++) {
            DUE.is("write(" + s + ", 0, 0) of a new object", x.write(s, 0, 0), Due.NOTHING);
        }
        DUE.is("back() of a new object", x.back(), Due.NOTHING);
        DUE.is("guards(3) of a new object", x.guards(3), 1);
        GuardDesk y = new GuardDesk();
        x.target(0, 1, 0, 1, 1);
        x.keep();
        x.sheet(0, 0, 1);
        DUE.is("another object has no targets", y.count(0), 0);
        DUE.is("another object has its guards", y.count(1), 1);
        DUE.is("another object has its sheets", y.write(0, 0, 1), Due.NOTHING);
        DUE.is("another object has its keeping", y.back(), Due.NOTHING);
    }
}
