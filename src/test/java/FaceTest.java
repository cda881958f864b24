import java.lang.reflect.Constructor;
import java.lang.reflect.Field;
import java.lang.reflect.Member;
import java.lang.reflect.Method;
import java.lang.reflect.Modifier;
import java.util.HashSet;
import java.util.Set;

/** The public face is the document's and nothing else (LANGUAGE 1, 5 and 11, as far as reflection sees). */
public final class FaceTest {
    private static final String[] FACE = {"int type(int,int)", "int wipe(int)", "int fault(int)",
        "int rope(int,int)", "int crosses(int,int,int)", "long crossing(int,int,int,int)",
        "int takes(int,int,int,int)", "int set(int,int)", "int trip(int,int,int,int,int)",
        "int read(int,int)", "int undo()", "int clash(int,int,int)", "int clashes()",
        "int putOff(int)", "int frayed(int,int)", "int yet(int,int)", "int heavy()",
        "int wind(int)", "int part(int,int)", "int gone()", "int sent(int)", "int cut(int)",
        "int needed()", "int pegs(int,int,int,int)", "int balance(int)", "int settled()",
        "long knots(int,int,int)", "int sheet(int,int,int)", "int lose(int)",
        "int lay(int,int,int,int)", "int get(int,int,int)", "int copy(int,int,int,int,int)",
        "int write(int)", "int count(int)", "long digest()"};

    private static final Check CHECK = new Check("FaceTest");

    public static void main(String[] args) throws IllegalAccessException {
        Class<?> c = GorgeRopes.class;
        CHECK.holds("the class is not public and final",
                Modifier.isPublic(c.getModifiers()) && Modifier.isFinal(c.getModifiers()));
        Set<String> names = publicMethods(c);
        constructors(c);
        constants(c);
        for (Class<?> inside : c.getDeclaredClasses()) {
            int m = inside.getModifiers();
            CHECK.holds(inside + " is not private or package-visible and static",
                    Modifier.isStatic(m) && !Modifier.isPublic(m) && !Modifier.isProtected(m));
            members(inside, names);
        }
        members(c, names);
        CHECK.holds("there are more than twelve classes", c.getDeclaredClasses().length < 12);
        CHECK.end();
    }

    private static Set<String> publicMethods(Class<?> c) {
        Set<String> want = new HashSet<>(Set.of(FACE));
        Set<String> names = new HashSet<>();
        for (Method method : c.getDeclaredMethods()) {
            if (Modifier.isPrivate(method.getModifiers())) {
                continue;
            }
            StringBuilder told = new StringBuilder(method.getReturnType() + " " + method.getName());
            char sign = '(';
            for (Class<?> type : method.getParameterTypes()) {
                told.append(sign).append(type);
                sign = ',';
            }
            told.append(sign == '(' ? "()" : ")");
            CHECK.holds(told + " is not of the face", want.remove(told.toString()));
            CHECK.holds(told + " is not public", Modifier.isPublic(method.getModifiers()));
            names.add(method.getName());
        }
        CHECK.holds("the face lacks " + want, want.isEmpty());
        return names;
    }

    private static void constructors(Class<?> c) {
        for (Constructor<?> made : c.getDeclaredConstructors()) {
            CHECK.holds(made + " is not of the face", Modifier.isPublic(made.getModifiers())
                    && made.getParameterCount() == 0);
        }
    }

    private static void constants(Class<?> c) throws IllegalAccessException {
        String[] names = {"NONE", "BAD", "NOT", "FULL"};
        int found = 0;
        for (Field field : c.getDeclaredFields()) {
            if (Modifier.isPrivate(field.getModifiers())) {
                continue;
            }
            CHECK.holds(field + " is not of the face", field.getType() == int.class
                    && Modifier.isPublic(field.getModifiers()));
            for (int i = 0; i < names.length; i++) {
                if (field.getName().equals(names[i])) {
                    found++;
                    CHECK.due(names[i], field.getInt(null), -1 - i);
                }
            }
        }
        CHECK.due("constants", found, names.length);
    }

    private static void members(Class<?> c, Set<String> publicNames) {
        int fields = 0;
        for (Field field : c.getDeclaredFields()) {
            boolean isStatic = Modifier.isStatic(field.getModifiers());
            CHECK.holds(field + " is static and not final",
                    !isStatic || Modifier.isFinal(field.getModifiers()));
            fields += isStatic ? 0 : 1;
        }
        CHECK.holds(c + " has more than twenty fields", fields <= 20);
        for (Method method : c.getDeclaredMethods()) {
            CHECK.holds(method + " has more than seven parameters", method.getParameterCount() <= 7);
            CHECK.holds(method + " bears a public name",
                    isFace(method) || !publicNames.contains(method.getName()));
        }
    }

    private static boolean isFace(Member member) {
        return member.getDeclaringClass() == GorgeRopes.class
                && Modifier.isPublic(member.getModifiers());
    }
}
