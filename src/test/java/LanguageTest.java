import java.io.IOException;
import java.lang.reflect.Constructor;
import java.lang.reflect.Field;
import java.lang.reflect.Method;
import java.lang.reflect.Modifier;
import java.nio.file.Files;
import java.nio.file.Path;
import java.util.ArrayList;
import java.util.List;
import java.util.Set;
import java.util.TreeSet;
import java.util.regex.Matcher;
import java.util.regex.Pattern;

/** Rules of LANGUAGE.md that can be seen in the source or in the compiled classes. */
final class LanguageTest {
    private static final Due DUE = new Due();
    private static final String FACE = "feed(int,int,int,int,int):int book(int):int fault():int told(int):int "
        + "wager(int,int):int day(int):int come(int):int chance(int,int,int):boolean sell(int,int,int,int):boolean "
        + "paid(int,int,int):boolean rows(int):int fits(int):int pays(int,int):int sure(int,int):int "
        + "split(int,int):int when(int,int):int latest(int):int hang(int):int same(int,int):int has(int):int "
        + "may(int,int):int end(int,int):int settle():int best(int):int win(int,int):int worth(int,int):long "
        + "holds(int,int):long luck(int,int):int image():int back(int):boolean count(int):int";

    public static void main(String[] arguments) throws IOException {
        String source = Files.readString(Path.of("src/main/java/BettingBook.java"));
        String code = source.replaceAll("(?s)/\\*.*?\\*/", "").replaceAll("//[^\n]*", "")
            .replaceAll("\"[^\"\n]*\"", "\"\"").replaceAll("'[^'\n]*'", "' '");
        words(source, code);
        face();
        classes();
        methods(code);
        DUE.end();
    }

    private static void words(String source, String code) {
        DUE.is("signs above 127", source.chars().filter(sign -> sign > 127).count(), 0);
        String[] banned = {"\\bthrow\\b", "\\bthrows\\b", "\\btry\\b", "\\bcatch\\b", "\\bsynchronized\\b",
            "\\bassert\\b", "->", "::", "Exact\\s*\\(", "\\bSystem\\.(?!arraycopy)", "\\bObject\\b", "\\bRandom\\b",
            "\\bThread\\b", "\\bhashCode\\b", "\\btoString\\b(?!\\(\\))", "\\bprotected\\b", "\\bpackage\\b",
            "\\bstatic\\s*\\{",
            "\\bjava\\.(?!util\\.(Arrays|ArrayList|List);)", "\\bvar\\b", "\\bNaN\\b"};
        for (String word : banned) {
            Matcher matcher = Pattern.compile(word).matcher(code);
            DUE.is(word, matcher.find(), false);
        }
    }

    private static void face() {
        Set<String> methods = new TreeSet<>();
        for (Method method : BettingBook.class.getDeclaredMethods()) {
            boolean isPublic = Modifier.isPublic(method.getModifiers());
            DUE.is(method + " is public or private",
                isPublic || Modifier.isPrivate(method.getModifiers()) || method.isSynthetic(), true);
            if (isPublic) {
                methods.add(signature(method));
            }
        }
        DUE.is("the public methods: " + methods, methods.equals(new TreeSet<>(List.of(FACE.split(" ")))), true);
        for (Constructor<?> made : BettingBook.class.getDeclaredConstructors()) {
            DUE.is(made + "", Modifier.isPublic(made.getModifiers()) && made.getParameterCount() == 0, true);
        }
        for (Field field : BettingBook.class.getDeclaredFields()) {
            boolean isFace = field.getName().equals("NONE") && Modifier.isPublic(field.getModifiers());
            DUE.is(field + " is private", isFace || Modifier.isPrivate(field.getModifiers()), true);
        }
        DUE.is("public and final", Modifier.isPublic(BettingBook.class.getModifiers())
            && Modifier.isFinal(BettingBook.class.getModifiers()), true);
        DUE.is("NONE", BettingBook.NONE, -1);
    }

    private static String signature(Method method) {
        List<String> types = new ArrayList<>();
        for (Class<?> type : method.getParameterTypes()) {
            types.add(type.getName());
        }
        return method.getName() + "(" + String.join(",", types) + "):" + method.getReturnType().getName();
    }

    private static void classes() {
        Set<String> names = new TreeSet<>();
        for (String method : FACE.split(" ")) {
            names.add(method.substring(0, method.indexOf('(')));
        }
        Class<?>[] inside = BettingBook.class.getDeclaredClasses();
        DUE.is("classes: " + (inside.length + 1) + " are at most twelve", inside.length + 1 <= 12, true);
        for (Class<?> one : inside) {
            DUE.is(one + " is static", Modifier.isStatic(one.getModifiers()), true);
            DUE.is(one + " has no class inside", one.getDeclaredClasses().length, 0);
            for (Method method : one.getDeclaredMethods()) {
                DUE.is(method + " has a name of its own", names.contains(method.getName()), false);
                DUE.is(method + " takes at most seven", method.getParameterCount() <= 7, true);
            }
            fields(one);
        }
        fields(BettingBook.class);
    }

    private static void fields(Class<?> one) {
        int own = 0;
        for (Field field : one.getDeclaredFields()) {
            boolean isStatic = Modifier.isStatic(field.getModifiers());
            own += isStatic ? 0 : 1;
            DUE.is(field + " is final, if static", !isStatic || Modifier.isFinal(field.getModifiers()), true);
        }
        DUE.is(one + " has at most twenty fields", own <= 20, true);
    }

    /** Every method ends within sixty lines of where it begins. */
    private static void methods(String code) {
        Matcher method = Pattern.compile("(?m)^( {4}| {8})(?! )[^;=\n]*\\)\\s*\\{\n(?s:.*?)\n\\1\\}").matcher(code);
        int found = 0;
        while (method.find()) {
            found++;
            long lines = method.group().lines().count();
            DUE.is(method.group().lines().findFirst().orElse("") + " .. " + lines + " lines", lines <= 60, true);
        }
        DUE.is("methods were found", found > 100, true);
    }
}
