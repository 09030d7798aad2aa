import java.io.IOException;
import java.lang.reflect.Field;
import java.lang.reflect.Member;
import java.lang.reflect.Method;
import java.lang.reflect.Modifier;
import java.nio.file.Files;
import java.nio.file.Path;
import java.util.ArrayList;
import java.util.Arrays;
import java.util.Collections;
import java.util.List;
import java.util.regex.Matcher;
import java.util.regex.Pattern;

/** The public face as the document has it, and what LANGUAGE.md leaves out of the program. */
public final class LanguageTest {
    private static final Path PROGRAM = Path.of("src/main/java/RulePrices.java");
    private static final String[] FACE = {
        "int thing(int, int)", "int rule(int, int, int, int)", "int amount(int, int, int)", "int on(int, boolean)",
        "int set(int, int, int)", "int value()", "int counted(int)", "int first(int)", "int fast(int)",
        "int price(int, int)", "int weight(int)", "int rank(int)", "int more(int)", "int must(int, int)",
        "int span(int, boolean)", "int put(int, int)", "int worth()", "int broken()", "long share(boolean)",
        "long sharePrice(int, boolean)", "int holds(int)", "long gap(boolean)", "int told(int)"
    };
    private static final String[] LEFT_OUT = {
        "\\bthrow\\b", "\\bthrows\\b", "\\btry\\b", "\\bcatch\\b", "\\bsynchronized\\b", "\\bassert\\b", "->", "::",
        "\\bvar\\b", "Exact\\b", "\\bprotected\\b", "\\bdouble\\b", "\\bfloat\\b", "\\bpackage\\b", "\\bvolatile\\b",
        "\\bhashCode\\b", "\\btoString\\b", "\\bRandom\\b", "\\bcurrentTimeMillis\\b", "\\bnanoTime\\b", "\\bThread\\b"
    };
    private static final Check CHECK = new Check();

    public static void main(String[] args) throws IOException {
        methodsAreTheFace();
        constantsAreTheFace();
        nothingElseIsSeen();
        String code = withoutComments(Files.readString(PROGRAM));
        nothingLeftOutIsUsed(code);
        onlyArraysIsImported(code);
        methodsAreShort(code);
        constructorsHandOutNothing(code);
        onlyListedFunctionsAreCalled(code);
        classesAreSmall();
        staticsAreConstants(RulePrices.class);
        for (Class<?> inside : RulePrices.class.getDeclaredClasses()) {
            staticsAreConstants(inside);
        }
        CHECK.end();
    }

    private static void methodsAreTheFace() {
        List<String> found = new ArrayList<>();
        for (Method method : RulePrices.class.getDeclaredMethods()) {
            if (Modifier.isPublic(method.getModifiers())) {
                found.add(signature(method));
            }
        }
        List<String> want = new ArrayList<>(Arrays.asList(FACE));
        Collections.sort(found);
        Collections.sort(want);
        CHECK.due("the public methods", found.toString(), want.toString());
        CHECK.due("the class is public and final", Modifier.toString(RulePrices.class.getModifiers()), "public final");
        CHECK.due("the public constructors", RulePrices.class.getConstructors().length, 1);
        CHECK.due("its parameters", RulePrices.class.getConstructors()[0].getParameterCount(), 0);
    }

    private static String signature(Method method) {
        List<String> types = new ArrayList<>();
        for (Class<?> type : method.getParameterTypes()) {
            types.add(type.getName());
        }
        return method.getReturnType().getName() + " " + method.getName() + "(" + String.join(", ", types) + ")";
    }

    private static void constantsAreTheFace() {
        List<String> found = new ArrayList<>();
        for (Field field : RulePrices.class.getFields()) {
            found.add(field.getName());
        }
        Collections.sort(found);
        CHECK.due("the public fields", found.toString(), "[BAD, FULL, NONE]");
        CHECK.due("NONE", RulePrices.NONE, -1000000);
        CHECK.due("BAD", RulePrices.BAD, -1000001);
        CHECK.due("FULL", RulePrices.FULL, -1000002);
    }

    private static void nothingElseIsSeen() {
        List<Member> members = new ArrayList<>(Arrays.asList(RulePrices.class.getDeclaredMethods()));
        members.addAll(Arrays.asList(RulePrices.class.getDeclaredFields()));
        int seen = 0;
        for (Member member : members) {
            int modifiers = member.getModifiers();
            if (!Modifier.isPublic(modifiers) && !Modifier.isPrivate(modifiers)) {
                seen++;
            }
        }
        CHECK.due("members neither public nor private", seen, 0);
        for (Class<?> inside : RulePrices.class.getDeclaredClasses()) {
            CHECK.due(inside.getName() + " is static", Modifier.isStatic(inside.getModifiers()) ? 1 : 0, 1);
            for (Method method : inside.getDeclaredMethods()) {
                CHECK.due(inside.getName() + "." + method.getName() + " bears no public name", bears(method), 0);
            }
        }
    }

    private static int bears(Method method) {
        int same = 0;
        for (String signature : FACE) {
            if (signature.contains(" " + method.getName() + "(")) {
                same++;
            }
        }
        return same;
    }

    private static String withoutComments(String text) {
        return text.replaceAll("(?s)/\\*.*?\\*/", "").replaceAll("//[^\n]*", "");
    }

    private static void nothingLeftOutIsUsed(String code) {
        for (String word : LEFT_OUT) {
            CHECK.due(word + " stands in the program", Pattern.compile(word).matcher(code).find() ? 1 : 0, 0);
        }
    }

    private static void onlyArraysIsImported(String code) {
        Matcher imports = Pattern.compile("import ([^;]*);").matcher(code);
        while (imports.find()) {
            CHECK.due("an import", imports.group(1), "java.util.Arrays");
        }
    }

    /** A method begins and ends at a line of its own indent. */
    private static void methodsAreShort(String code) {
        int begun = -1;
        String indent = "";
        String[] lines = code.split("\n");
        for (int i = 0; i < lines.length; i++) {
            Matcher head = Pattern.compile("^( {4}| {8})[a-z].*\\) \\{$").matcher(lines[i]);
            if (head.matches() && !lines[i].matches(" *(if|for|while|switch) .*")) {
                begun = i;
                indent = head.group(1);
            } else if (begun >= 0 && lines[i].equals(indent + "}")) {
                CHECK.due("over 60 lines: " + lines[begun].trim(), i - begun + 1 > 60 ? 1 : 0, 0);
                begun = -1;
            }
        }
    }

    /** Rule 12: nothing that is made takes a part of its maker; "this" stands nowhere as a value. */
    private static void constructorsHandOutNothing(String code) {
        Matcher made = Pattern.compile("\\bnew (\\w+)\\(([^)]*)\\)").matcher(code);
        int found = 0;
        while (made.find()) {
            found++;
            CHECK.due("new " + made.group(1) + " takes", made.group(2), "");
        }
        CHECK.due("things are made", found > 0 ? 1 : 0, 1);
        CHECK.due("this as a value", Pattern.compile("\\bthis\\b(?! *\\.)").matcher(code).find() ? 1 : 0, 0);
    }

    /** Rule 4. */
    private static void onlyListedFunctionsAreCalled(String code) {
        List<String> listed =
                List.of("Arrays.fill", "Integer.bitCount", "Math.abs", "Math.floorDiv", "Math.max", "Math.min");
        Matcher calls = Pattern.compile("\\b[A-Z]\\w*[a-z]\\w*\\.\\w+").matcher(code.replaceAll("import [^;]*;", ""));
        while (calls.find()) {
            CHECK.due(calls.group() + " is listed", listed.contains(calls.group()) ? 1 : 0, 1);
        }
    }

    /** Rule 11. */
    private static void classesAreSmall() {
        List<Class<?>> all = new ArrayList<>(Arrays.asList(RulePrices.class.getDeclaredClasses()));
        all.add(RulePrices.class);
        CHECK.due("over 12 classes", all.size() > 12 ? 1 : 0, 0);
        for (Class<?> one : all) {
            int fields = 0;
            for (Field field : one.getDeclaredFields()) {
                fields += Modifier.isStatic(field.getModifiers()) ? 0 : 1;
            }
            CHECK.due(one.getName() + " has over 20 fields", fields > 20 ? 1 : 0, 0);
            for (Method method : one.getDeclaredMethods()) {
                CHECK.due(method.getName() + " takes over 7", method.getParameterCount() > 7 ? 1 : 0, 0);
            }
        }
    }

    /** Rule 5; rows of numbers would be allowed too, but there are none. */
    private static void staticsAreConstants(Class<?> one) {
        for (Field field : one.getDeclaredFields()) {
            if (Modifier.isStatic(field.getModifiers())) {
                String name = one.getName() + "." + field.getName();
                CHECK.due(name + " is final", Modifier.isFinal(field.getModifiers()) ? 1 : 0, 1);
                CHECK.due(name + " is of type", field.getType().getName(), "int");
            }
        }
    }
}
