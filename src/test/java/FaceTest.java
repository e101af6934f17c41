import java.lang.reflect.Constructor;
import java.lang.reflect.Field;
import java.lang.reflect.Member;
import java.lang.reflect.Method;
import java.lang.reflect.Modifier;
import java.nio.file.Files;
import java.nio.file.Path;
import java.util.ArrayList;
import java.util.Arrays;
import java.util.HashSet;
import java.util.List;
import java.util.NoSuchElementException;
import java.util.Set;
import java.util.TreeSet;

/** The public face is the document's, nothing less or more; and some rules of LANGUAGE.md hold. */
public final class FaceTest {
    private static final Checks c = new Checks();
    private static final String FACE = "int feed(long,long,long);int town();int years();int house(int,int);"
            + "int order(int);int ahead(int);int pressed(int);int blot(int,int);boolean put(int,int);"
            + "boolean road(int);int run();int sell(int);boolean undo();int judged(int);int shunned();"
            + "int best(int);int around();int till(int);int dry(int);boolean hear(int);int sets(int);int look();"
            + "boolean see(int,int);int orders();int first(int);int ask();int share(int);int pin(int,int,int);"
            + "int rests(int,int,int);int decades(int,int,int);boolean mark(int,boolean);int count(int)";

    public static void main(String[] args) throws Exception {
        face();
        thrown();
        namesApart();
        sizes();
        source();
        c.end();
    }

    private static String told(Method method) {
        List<String> types = new ArrayList<>();
        for (Class<?> type : method.getParameterTypes()) {
            types.add(type.getSimpleName());
        }
        return method.getReturnType().getSimpleName() + " " + method.getName() + "(" + String.join(",", types) + ")";
    }

    private static void face() throws Exception {
        Set<String> want = new TreeSet<>(Arrays.asList(FACE.split(";")));
        Set<String> got = new TreeSet<>();
        for (Method method : MangleTown.class.getDeclaredMethods()) {
            if (Modifier.isPublic(method.getModifiers())) {
                got.add(told(method));
            } else {
                onlyPrivate(method);
            }
        }
        c.due("face " + got, got.equals(want), true);
        for (Field field : MangleTown.class.getDeclaredFields()) {
            if (!field.getName().equals("NONE")) {
                onlyPrivate(field);
            }
        }
        Constructor<?>[] made = MangleTown.class.getDeclaredConstructors();
        c.due("constructors", made.length, 1);
        c.due("constructor is public", Modifier.isPublic(made[0].getModifiers()), true);
        c.due("final", Modifier.isFinal(MangleTown.class.getModifiers()), true);
        c.due("NONE", MangleTown.class.getField("NONE").getInt(null), -1);
        for (Class<?> inside : MangleTown.class.getDeclaredClasses()) {
            int how = inside.getModifiers();
            c.due(inside + " is static", Modifier.isStatic(how), true);
            c.due(inside + " is not public", Modifier.isPublic(how) || Modifier.isProtected(how), false);
        }
    }

    /** Promises 29, 30: "throws NoSuchElementException": pin and rests say so, no other call says anything. */
    private static void thrown() throws Exception {
        for (Method method : MangleTown.class.getMethods()) {
            if (method.getDeclaringClass() == MangleTown.class) {
                boolean says = method.getName().equals("pin") || method.getName().equals("rests");
                Class<?>[] told = method.getExceptionTypes();
                c.due(method + " says what it throws", told.length, says ? 1 : 0);
                c.due(method + " throws no other", told.length == 0 || told[0] == NoSuchElementException.class, true);
            }
        }
        Constructor<?> made = MangleTown.class.getConstructor();
        c.due("the constructor throws nothing", made.getExceptionTypes().length, 0);
        Field none = MangleTown.class.getField("NONE");
        int how = none.getModifiers();
        c.due("NONE is an int", none.getType() == int.class, true);
        c.due("NONE is static and final", Modifier.isStatic(how) && Modifier.isFinal(how), true);
    }

    /** Rules 5 and 11: what is static is final; some twelve classes, some twenty fields beside constants. */
    private static void sizes() {
        List<Class<?>> all = new ArrayList<>(Arrays.asList(MangleTown.class.getDeclaredClasses()));
        all.add(MangleTown.class);
        c.due(all.size() + " classes", all.size() <= 12, true);
        for (Class<?> one : all) {
            int fields = 0;
            for (Field field : one.getDeclaredFields()) {
                boolean isStatic = Modifier.isStatic(field.getModifiers());
                fields += isStatic ? 0 : 1;
                c.due(field + " is final", !isStatic || Modifier.isFinal(field.getModifiers()), true);
            }
            c.due(one + " has " + fields + " fields", fields <= 20, true);
        }
    }

    private static void onlyPrivate(Member member) {
        if (!member.isSynthetic()) {
            c.due(member + " is private", Modifier.isPrivate(member.getModifiers()), true);
        }
    }

    private static void namesApart() {
        Set<String> face = new HashSet<>();
        for (String one : FACE.split(";")) {
            face.add(one.substring(one.indexOf(' ') + 1, one.indexOf('(')));
        }
        List<Class<?>> all = new ArrayList<>(Arrays.asList(MangleTown.class.getDeclaredClasses()));
        all.add(MangleTown.class);
        for (Class<?> one : all) {
            for (Method method : one.getDeclaredMethods()) {
                boolean inFace = one == MangleTown.class && Modifier.isPublic(method.getModifiers());
                c.due(method + " has a name of its own", inFace || !face.contains(method.getName()), true);
                c.due(method + " has seven parameters at most", method.getParameterCount() <= 7, true);
            }
        }
    }

    /** Words that the rules leave no room for, looked for in the text without its comments and written texts. */
    private static void source() throws Exception {
        String text = Files.readString(Path.of("src/main/java/MangleTown.java"))
                .replaceAll("(?s)/\\*.*?\\*/", "").replaceAll("//[^\n]*", "").replaceAll("\"[^\"\n]*\"", "\"\"");
        String[] banned = {"catch", "finally", "synchronized", "assert", "->", "::", "Exact", "static \\{",
            "while \\(true\\)", "for \\(;;\\)", "getMessage", "hashCode", "toString", "package "};
        for (String word : banned) {
            c.due("no " + word, text.split(word, -1).length - 1, 0);
        }
        c.due("imports", text.split("import ", -1).length - 1, 1);
        c.due("throws only what is told", text.split("throw new NoSuchElementException", -1).length,
                text.split("throw new ", -1).length);
    }
}
