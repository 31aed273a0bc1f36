import java.io.IOException;
import java.lang.reflect.Field;
import java.lang.reflect.Member;
import java.lang.reflect.Method;
import java.lang.reflect.Modifier;
import java.nio.file.Files;
import java.nio.file.Paths;
import java.util.ArrayList;
import java.util.Arrays;
import java.util.HashSet;
import java.util.List;
import java.util.Set;
import java.util.TreeSet;
import java.util.regex.Pattern;

/** The face of the class, arguments of all kinds in many states, and the rules of LANGUAGE.md. */
public final class LanguageTests {
    private static final String[] FACE = {
        "int account(int)", "int append(int)", "int at(int,int)", "int between(int,int,int)",
        "int betweenAgain(int,int,int)", "int build(int)", "int cartOf(int,int,int)",
        "int carts(int,int)", "int character(int)", "int heaviest(int)", "int isBalanced()",
        "int leaningShare(int)", "int limit(int)", "int pour(int,int)", "int put(int,int,int)",
        "int rank(int,int)", "int rankAgain(int,int)", "int reason(boolean)", "int restore()",
        "int rickOf(int,int)", "int run()", "int save()", "int sheafOf(int,int,int)",
        "int take(int,int)", "int tell(int)", "int undo()", "long meanDepth(int)",
        "long shape(int)", "long weights(int,int)"};
    private static final int[] ODD = {Integer.MIN_VALUE, Integer.MIN_VALUE + 1, -1000, -15, -1, 0, 1,
        2, 3, 29, 30, 31, 60, 64, 99, 936, 999, 1000, Integer.MAX_VALUE - 1, Integer.MAX_VALUE};
    private static final Due due = new Due("LanguageTests");

    public static void main(String[] args) throws IOException, ReflectiveOperationException {
        theFace();
        noNameTwice();
        noOtherLanguage();
        oddArguments();
        due.end();
    }

    private static void theFace() {
        due.part("rule 1, the face");
        Set<String> face = new TreeSet<>();
        for (Method method : LeaningRicks.class.getDeclaredMethods()) {
            if (!Modifier.isPrivate(method.getModifiers())) {
                List<String> kinds = new ArrayList<>();
                for (Class<?> kind : method.getParameterTypes()) {
                    kinds.add(kind.getName());
                }
                face.add(method.getReturnType() + " " + method.getName() + "("
                        + String.join(",", kinds) + ")");
                due.is(method + " is public and not static", method.getModifiers(), Modifier.PUBLIC);
            }
        }
        due.is("methods as in the document: " + face,
                face.equals(new TreeSet<>(Arrays.asList(FACE))) ? 1 : 0, 1);
        int fields = 0;
        for (Field field : LeaningRicks.class.getDeclaredFields()) {
            fields += Modifier.isPrivate(field.getModifiers()) ? 0 : 1;
        }
        due.is("fields that are not private", fields, 5);
        due.is("constructors", LeaningRicks.class.getConstructors().length, 1);
        due.is("public and final", LeaningRicks.class.getModifiers(),
                Modifier.PUBLIC | Modifier.FINAL);
    }

    private static void noNameTwice() {
        due.part("rule 1, names");
        Set<String> names = new HashSet<>();
        for (String method : FACE) {
            names.add(method.substring(method.indexOf(' ') + 1, method.indexOf('(')));
        }
        List<Member> others = new ArrayList<>();
        for (Method method : LeaningRicks.class.getDeclaredMethods()) {
            if (Modifier.isPrivate(method.getModifiers())) {
                others.add(method);
            }
        }
        for (Class<?> inside : LeaningRicks.class.getDeclaredClasses()) {
            others.addAll(Arrays.asList(inside.getDeclaredMethods()));
            due.is(inside + " is static", Modifier.isStatic(inside.getModifiers()) ? 1 : 0, 1);
        }
        for (Member other : others) {
            due.is(other + " bears the name of a public one",
                    names.contains(other.getName()) ? 1 : 0, 0);
        }
    }

    private static void noOtherLanguage() throws IOException {
        due.part("rules 3 to 8");
        String source = Files.readString(Paths.get("src/main/java/LeaningRicks.java"));
        String code = source.replaceAll("(?s)/\\*.*?\\*/", "").replaceAll("//[^\n]*", "");
        String[] ruledOut = {"\\bimport\\b", "\\bpackage\\b", "->", "::", "\\bcatch\\b", "\\bthrow\\b",
            "\\bfinally\\b", "\\bassert\\b", "\\bsynchronized\\b", "\\bObject\\b", "Exact\\(",
            "\\bFloat\\b", "\\bDouble\\b", "\\bLong\\b", "\\bvar\\b", "\\binstanceof\\b",
            "static \\{", "hashCode", "toString", "equals", "\"", "[^\\x00-\\x7e]"};
        for (String word : ruledOut) {
            due.is("the code has " + word, Pattern.compile(word).matcher(code).find() ? 1 : 0, 0);
        }
    }

    /** Every call with every odd number at every place, in states that differ: none may throw. */
    private static void oddArguments() throws ReflectiveOperationException {
        due.part("rule 7, odd arguments");
        for (int state = 0; state < 4; state++) {
            for (Method method : LeaningRicks.class.getDeclaredMethods()) {
                if (Modifier.isPublic(method.getModifiers())) {
                    callWithAll(state, method);
                }
            }
        }
    }

    private static void callWithAll(int state, Method method) throws ReflectiveOperationException {
        int places = method.getParameterCount();
        Class<?>[] kinds = method.getParameterTypes();
        int calls = 1;
        for (int i = 0; i < places; i++) {
            calls *= ODD.length;
        }
        LeaningRicks x = null;
        for (int call = 0; call < calls; call++) {
            x = call % 300 == 0 ? inState(state) : x;
            Object[] arguments = new Object[places];
            int rest = call;
            for (int i = 0; i < places; i++) {
                Integer odd = ODD[rest % ODD.length];
                arguments[i] = kinds[i] == boolean.class ? (Object) (odd < 0) : odd;
                rest /= ODD.length;
            }
            String told = method.getName() + Arrays.toString(arguments) + " in state " + state;
            try {
                method.invoke(x, arguments);
                due.is(told + " threw", 0, 0);
            } catch (java.lang.reflect.InvocationTargetException thrown) {
                due.is(told + " threw " + thrown.getCause(), 1, 0);
            }
        }
        due.is(method + ", isBalanced() in state " + state, x.isBalanced(), 1);
    }

    private static LeaningRicks inState(int state) {
        LeaningRicks x = new LeaningRicks();
        if (state > 0) {
            x.limit(state == 1 ? 90 : 55);
        }
        for (int i = 0; i < state * 10; i++) {
            x.put(0, state == 1 ? i : i * 37 % 1000, 99);
            x.put(1, 999 - i, 1);
        }
        for (int i = 0; i < state * 20; i++) {
            x.append("=0;+2:5*9;>02;-2:0;".charAt(i % 19));
        }
        if (state > 1) {
            x.save();
            x.tell(0);
        }
        return x;
    }
}
