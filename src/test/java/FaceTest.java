import java.io.IOException;
import java.lang.reflect.Constructor;
import java.lang.reflect.Field;
import java.lang.reflect.Method;
import java.lang.reflect.Modifier;
import java.nio.charset.StandardCharsets;
import java.nio.file.Files;
import java.nio.file.Path;
import java.util.Arrays;
import java.util.List;
import java.util.Set;
import java.util.TreeSet;
import java.util.regex.Matcher;
import java.util.regex.Pattern;

/** The public face, and those rules of LANGUAGE.md that a program can see; run from the project's folder. */
public final class FaceTest {
    private static final String[] METHODS = {
        "int row(int,int)", "int lay(int,int,int)", "int at(int,int)", "int tear(int)",
        "int copy(int,int,int,int,int)", "int mean(int)", "int text(int,int)", "int put(int,int,int)",
        "int fault(int)", "int court(int)", "int rope(int,int)", "int mark(int,int)", "int haul(int,int)",
        "int slack(int)", "int belay(int)", "int cut(int)", "int splice(int)", "int frost(int)",
        "int undo(int)", "int keep(int)", "int on(int)", "int passes(int,int)", "int moves(int,int)",
        "int parts(int)", "int lawful()", "int least(int,int)", "int fall()", "int idle()",
        "int share(int,int)", "int who(int)", "int kinds(int)", "int test(int)", "int duel(int)",
        "int odds(int,int)", "int mid(int)", "int lots(int,int)", "int asked()", "long upper()",
        "long lower()", "int count(int)", "int finding()", "int findings(int)", "long digest()"};
    private static final List<String> CONSTANTS = List.of("BAD", "FULL", "FINDING", "STATE", "SPENT", "NONE");
    private static final String[] FORBIDDEN = {
        "\\bthrows?\\b", "\\btry\\b", "\\bcatch\\b", "\\bfinally\\b", "\\bsynchronized\\b", "\\bassert\\b",
        "\\bimport\\b", "\\bpackage\\b", "->", "::", "\\bprotected\\b", "\\bExact\\b", "\\w+Exact\\(",
        "\\bequals\\b", "\\bhashCode\\b", "\\btoString\\b", "System\\.(?!arraycopy)", "\\bRandom\\b",
        "\\bObject\\b", "\\bvar\\b", "\\bnative\\b", "\\bgetClass\\b", "\"", "@"};
    private static final int MOST_LINES = 60;

    private static int wrong = 0;

    public static void main(String[] args) throws IOException {
        face();
        for (Class<?> inner : LawRigging.class.getDeclaredClasses()) {
            innerClass(inner);
        }
        must(LawRigging.class.getDeclaredClasses().length <= 11, "at most some twelve classes");
        source(Files.readString(Path.of("src/main/java/LawRigging.java"), StandardCharsets.ISO_8859_1));
        System.out.println(wrong == 0 ? "FaceTest: all as told" : "FaceTest: " + wrong + " wrong");
        if (wrong != 0) {
            System.exit(1);
        }
    }

    private static void must(boolean holds, String what) {
        if (!holds) {
            wrong++;
            System.out.println("not so: " + what);
        }
    }

    private static void face() {
        Class<?> law = LawRigging.class;
        must(Modifier.isPublic(law.getModifiers()) && Modifier.isFinal(law.getModifiers()), "public final");
        must(law.getSuperclass() == Object.class && law.getInterfaces().length == 0, "no class above it");
        Constructor<?>[] made = law.getDeclaredConstructors();
        must(made.length == 1 && Modifier.isPublic(made[0].getModifiers())
            && made[0].getParameterCount() == 0, "one public constructor");
        Set<String> there = new TreeSet<>();
        for (Method method : law.getDeclaredMethods()) {
            if (Modifier.isPublic(method.getModifiers())) {
                must(!Modifier.isStatic(method.getModifiers()), method + " is no static one");
                there.add(signature(method));
            } else {
                must(Modifier.isPrivate(method.getModifiers()), method + " is private");
                must(!isPublicName(method.getName()), method + " bears no public name");
            }
            must(method.getParameterCount() <= 7, method + " takes at most seven");
        }
        must(there.equals(new TreeSet<>(Arrays.asList(METHODS))), "the methods are those of the document: " + there);
        int fields = 0;
        for (Field field : law.getDeclaredFields()) {
            fields += Modifier.isStatic(field.getModifiers()) ? 0 : 1;
            boolean constant = CONSTANTS.contains(field.getName());
            must(constant == Modifier.isPublic(field.getModifiers()), field + " is public if a constant told");
            must(constant || Modifier.isPrivate(field.getModifiers()), field + " is private");
            staticIsFinal(field);
        }
        must(fields <= 20, "some twenty fields, there are " + fields);
    }

    private static void innerClass(Class<?> inner) {
        must(Modifier.isStatic(inner.getModifiers()), inner + " is static");
        must(!Modifier.isPublic(inner.getModifiers()), inner + " isn't public");
        int fields = 0;
        for (Field field : inner.getDeclaredFields()) {
            staticIsFinal(field);
            fields += Modifier.isStatic(field.getModifiers()) ? 0 : 1;
        }
        must(fields <= 20, inner + " has some twenty fields");
        for (Method method : inner.getDeclaredMethods()) {
            must(!isPublicName(method.getName()), method + " bears no public name");
            must(method.getParameterCount() <= 7, method + " takes at most seven");
        }
    }

    private static void staticIsFinal(Field field) {
        must(!Modifier.isStatic(field.getModifiers()) || Modifier.isFinal(field.getModifiers()), field + " is final");
    }

    private static String signature(Method method) {
        StringBuilder text = new StringBuilder(method.getReturnType().getName() + " " + method.getName() + "(");
        for (int p = 0; p < method.getParameterCount(); p++) {
            text.append(p == 0 ? "" : ",").append(method.getParameterTypes()[p].getName());
        }
        return text.append(")").toString();
    }

    private static boolean isPublicName(String name) {
        for (String method : METHODS) {
            if (method.contains(" " + name + "(")) {
                return true;
            }
        }
        return false;
    }

    private static void source(String text) {
        for (int i = 0; i < text.length(); i++) {
            must(text.charAt(i) < 128, "sign at " + i + " is one of 1 to 127");
        }
        String code = text.replaceAll("(?s)/\\*.*?\\*/", "").replaceAll("//[^\n]*", "");
        for (String word : FORBIDDEN) {
            Matcher found = Pattern.compile(word).matcher(code);
            must(!found.find(), "no " + word);
        }
        Matcher method = Pattern.compile("(?m)^( +)[^\n;=]*\\) \\{\n(?s:.*?)\n\\1\\}$").matcher(code);
        int methods = 0;
        while (method.find()) {
            methods++;
            int lines = method.group().split("\n").length;
            String head = method.group().split("\n")[0].trim();
            must(lines <= MOST_LINES, "a short method of " + lines + " lines: " + head);
            boolean isConstructor = head.matches("(public )?[A-Z]\\w*\\(.*");
            must(isConstructor || !method.group().matches("(?s).*\\bnew\\b.*"), "no call makes an object: " + head);
        }
        must(methods > METHODS.length, "methods are found in the source: " + methods);
    }
}
