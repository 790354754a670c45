import java.io.IOException;
import java.lang.reflect.Constructor;
import java.lang.reflect.Executable;
import java.lang.reflect.Field;
import java.lang.reflect.Member;
import java.lang.reflect.Method;
import java.lang.reflect.Modifier;
import java.util.ArrayList;
import java.util.List;
import java.util.Set;
import java.util.TreeSet;

/** The public face is the document's and no more, and what lies behind it keeps to the language's rules 1, 2, 5, 11. */
public final class FaceTest {
    private static final Due DUE = new Due();

    public static void main(String[] args) throws IOException, IllegalAccessException {
        Class<?> face = ChangeGiver.class;
        asInTheDocument(face);
        onlyPublicOrPrivate(face);
        DUE.is("at most twelve classes", face.getDeclaredClasses().length < 12, true);
        List<Class<?>> all = new ArrayList<>(List.of(face.getDeclaredClasses()));
        for (Class<?> inside : all) {
            DUE.is(inside + " is static", Modifier.isStatic(inside.getModifiers()), true);
            DUE.is(inside + " is hidden", isHidden(inside.getModifiers()), true);
        }
        all.add(face);
        for (Class<?> one : all) {
            privateNames(one);
            sizes(one);
        }
        DUE.end("FaceTest");
    }

    private static void asInTheDocument(Class<?> face) throws IOException, IllegalAccessException {
        Set<String> found = publicMembers(face);
        List<String> due = Document.face();
        DUE.is("the document's constant, constructor and methods", due.size(), 26);
        for (String member : due) {
            String types = member.replaceAll("(int|boolean) \\w+([,)])", "$1$2");
            DUE.is("there is " + member, found.remove(types), true);
        }
        DUE.is("other public members: " + found, found.size(), 0);
    }

    /** The class and its public members as the document writes them, without the names of parameters. */
    private static Set<String> publicMembers(Class<?> face) throws IllegalAccessException {
        DUE.is("the class", Modifier.toString(face.getModifiers()).equals("public final"), true);
        DUE.is("it is of no other class", face.getSuperclass() == Object.class, true);
        DUE.is("it is of no interface", face.getInterfaces().length, 0);
        Set<String> found = new TreeSet<>();
        for (Field field : face.getFields()) {
            found.add(modifiers(field) + field.getType() + " " + field.getName() + " = " + field.get(null));
        }
        for (Constructor<?> constructor : face.getConstructors()) {
            found.add(modifiers(constructor) + face.getName() + parameters(constructor));
        }
        for (Method method : face.getDeclaredMethods()) {
            if (Modifier.isPublic(method.getModifiers())) {
                found.add(modifiers(method) + method.getReturnType() + " " + method.getName() + parameters(method));
                DUE.is(method + " throws nothing", method.getExceptionTypes().length, 0);
            }
        }
        return found;
    }

    /** The modifiers behind "public". */
    private static String modifiers(Member member) {
        String others = Modifier.toString(member.getModifiers() & ~Modifier.PUBLIC);
        return others.isEmpty() ? "" : others + " ";
    }

    private static String parameters(Executable one) {
        StringBuilder text = new StringBuilder("(");
        for (Class<?> type : one.getParameterTypes()) {
            text.append(text.length() == 1 ? "" : ", ").append(type);
        }
        return text.append(')').toString();
    }

    private static boolean isHidden(int modifiers) {
        return !Modifier.isPublic(modifiers) && !Modifier.isProtected(modifiers);
    }

    private static void onlyPublicOrPrivate(Class<?> face) {
        List<Member> members = new ArrayList<>(List.of(face.getDeclaredMethods()));
        members.addAll(List.of(face.getDeclaredFields()));
        members.addAll(List.of(face.getDeclaredConstructors()));
        for (Member member : members) {
            boolean fine = Modifier.isPublic(member.getModifiers()) || Modifier.isPrivate(member.getModifiers());
            DUE.is(member + " is public or private", fine || member.isSynthetic(), true);
        }
    }

    private static void privateNames(Class<?> type) {
        Set<String> names = new TreeSet<>();
        for (Method method : ChangeGiver.class.getMethods()) {
            names.add(method.getName());
        }
        for (Method method : type.getDeclaredMethods()) {
            if (!Modifier.isPublic(method.getModifiers())) {
                DUE.is(method + " has a name of its own", names.contains(method.getName()), false);
            }
        }
    }

    private static void sizes(Class<?> type) {
        int fields = 0;
        for (Field field : type.getDeclaredFields()) {
            boolean fixed = Modifier.isStatic(field.getModifiers());
            fields += fixed ? 0 : 1;
            DUE.is(field + ": a static field is final", !fixed || Modifier.isFinal(field.getModifiers()), true);
        }
        DUE.is(type + " has at most twenty fields", fields <= 20, true);
        List<Executable> all = new ArrayList<>(List.of(type.getDeclaredMethods()));
        all.addAll(List.of(type.getDeclaredConstructors()));
        for (Executable one : all) {
            DUE.is(one + " has at most seven parameters", one.getParameterCount() <= 7, true);
        }
    }
}
