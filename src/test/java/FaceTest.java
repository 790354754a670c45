import java.lang.reflect.Constructor;
import java.lang.reflect.Executable;
import java.lang.reflect.Field;
import java.lang.reflect.Member;
import java.lang.reflect.Method;
import java.lang.reflect.Modifier;
import java.util.ArrayList;
import java.util.List;
import java.util.Set;
import java.util.TreeSet;

/** The public face is the document's and no more, and what lies behind it keeps to the language's rules 1, 2, 5, 11. */
public final class FaceTest {
    private static final String[] METHODS = {
        "int coin(int,int)", "int note(int)", "boolean price(int,int)", "boolean mode(int)", "boolean fill(int,int)",
        "boolean stuck(int,boolean)", "boolean jam(int,int)", "int put(int)", "int takes(int)", "int buy(int)",
        "int refund()", "int pay()", "int gave(int)", "int way(int,int)", "int coins(int)", "int givable(int)",
        "boolean light()", "int need(int)", "int look(int)", "int kind(int,int)", "int priced(int)", "int empty()",
        "boolean drain(int,int)", "int count(int,int)"};
    private static final Due DUE = new Due();

    public static void main(String[] args) {
        Class<?> face = ChangeGiver.class;
        DUE.is("public", Modifier.isPublic(face.getModifiers()), true);
        DUE.is("final", Modifier.isFinal(face.getModifiers()), true);
        methods(face);
        constructors(face);
        fields(face);
        DUE.is("at most twelve classes", face.getDeclaredClasses().length < 12, true);
        List<Class<?>> all = new ArrayList<>(List.of(face.getDeclaredClasses()));
        for (Class<?> inside : all) {
            DUE.is(inside + " is static", Modifier.isStatic(inside.getModifiers()), true);
            DUE.is(inside + " is hidden", isHidden(inside.getModifiers()), true);
            privateNames(inside);
        }
        all.add(face);
        for (Class<?> one : all) {
            sizes(one);
        }
        DUE.end("FaceTest");
    }

    private static boolean isHidden(int modifiers) {
        return !Modifier.isPublic(modifiers) && !Modifier.isProtected(modifiers);
    }

    private static void onlyPublicOrPrivate(Member member) {
        boolean fine = Modifier.isPublic(member.getModifiers()) || Modifier.isPrivate(member.getModifiers());
        DUE.is(member + " is public or private", fine || member.isSynthetic(), true);
    }

    private static void methods(Class<?> face) {
        Set<String> found = new TreeSet<>();
        for (Method method : face.getDeclaredMethods()) {
            onlyPublicOrPrivate(method);
            if (Modifier.isPublic(method.getModifiers())) {
                found.add(describe(method));
                DUE.is(method + " throws nothing", method.getExceptionTypes().length, 0);
                DUE.is(method + " is no static one", Modifier.isStatic(method.getModifiers()), false);
            }
        }
        for (String method : METHODS) {
            DUE.is("there is " + method, found.remove(method), true);
        }
        DUE.is("other public methods: " + found, found.size(), 0);
        privateNames(face);
    }

    private static String describe(Method method) {
        StringBuilder text = new StringBuilder();
        text.append(method.getReturnType()).append(' ').append(method.getName()).append('(');
        for (Class<?> type : method.getParameterTypes()) {
            text.append(text.charAt(text.length() - 1) == '(' ? "" : ",").append(type);
        }
        return text.append(')').toString();
    }

    private static void privateNames(Class<?> type) {
        Set<String> names = new TreeSet<>();
        for (String method : METHODS) {
            names.add(method.substring(method.indexOf(' ') + 1, method.indexOf('(')));
        }
        for (Method method : type.getDeclaredMethods()) {
            if (!Modifier.isPublic(method.getModifiers())) {
                DUE.is(method + " has a name of its own", names.contains(method.getName()), false);
            }
        }
    }

    private static void constructors(Class<?> face) {
        Constructor<?>[] all = face.getDeclaredConstructors();
        DUE.is("one constructor", all.length, 1);
        DUE.is("it is public", Modifier.isPublic(all[0].getModifiers()), true);
        DUE.is("without parameters", all[0].getParameterCount(), 0);
    }

    private static void fields(Class<?> face) {
        for (Field field : face.getDeclaredFields()) {
            onlyPublicOrPrivate(field);
            if (Modifier.isPublic(field.getModifiers())) {
                DUE.is(field + " is NONE", field.getName().equals("NONE"), true);
                DUE.is("NONE is a constant int", field.toString().startsWith("public static final int "), true);
            }
        }
        DUE.is("NONE", ChangeGiver.NONE, -1);
    }

    private static void sizes(Class<?> type) {
        int fields = 0;
        for (Field field : type.getDeclaredFields()) {
            boolean fixed = Modifier.isStatic(field.getModifiers());
            fields += fixed ? 0 : 1;
            DUE.is(field + ": a static field is final", !fixed || Modifier.isFinal(field.getModifiers()), true);
        }
        DUE.is(type + " has at most twenty fields", fields <= 20, true);
        List<Executable> all = new ArrayList<>(List.of(type.getDeclaredMethods()));
        all.addAll(List.of(type.getDeclaredConstructors()));
        for (Executable one : all) {
            DUE.is(one + " has at most seven parameters", one.getParameterCount() <= 7, true);
        }
    }
}
