import java.lang.reflect.Constructor;
import java.lang.reflect.Field;
import java.lang.reflect.Method;
import java.lang.reflect.Modifier;
import java.util.Set;
import java.util.TreeSet;

/** The public face is the document's, and nothing beside it can be seen. */
public final class FaceTest {
    private static final String[] FACE = {
        "int feed(long,long,long)", "int past()", "int round()", "int matter(int,int)", "int spread(int)",
        "int eat(int)", "int year()", "boolean undo()", "int judged(int)", "int meant()", "int right()",
        "int wants(int)", "int cost(int)", "int cheap(int,int)", "int most(int,int)", "int all()", "int lacks()",
        "int easiest()", "int later(int,int)", "int again(int)", "int heals(int)", "int fills(int)",
        "int dinners(int)", "int causes(int)", "int fruits(int)", "int ways(int,int)", "int story()",
        "int roots()", "int elders(int)", "int redeems()", "int gap()", "int bare()", "int sourest()",
        "int lost()", "boolean see(int,int,boolean)", "int who()", "int taste()", "int chance(int,int,int)",
        "int rests(int,int,int,int)", "int years(int,int,int)", "boolean mark(int,boolean)", "int count(int)",
    };

    public static void main(String[] args) {
        Class<MustardPast> type = MustardPast.class;
        Check.due("public final class", Modifier.isPublic(type.getModifiers()) && Modifier.isFinal(type.getModifiers()), true);
        Set<String> want = new TreeSet<>(Set.of(FACE));
        Set<String> names = new TreeSet<>();
        Set<String> got = new TreeSet<>();
        for (Method m : type.getDeclaredMethods()) {
            if (!Modifier.isPrivate(m.getModifiers())) {
                got.add(told(m));
                names.add(m.getName());
                Check.due(m + " is public and of the object", m.getModifiers(), Modifier.PUBLIC);
            }
        }
        Check.due("the methods " + got, got.equals(want), true);
        for (Class<?> inside : type.getDeclaredClasses()) {
            Check.due(inside + " is static", Modifier.isStatic(inside.getModifiers()), true);
            Check.due(inside + " is not public", Modifier.isPublic(inside.getModifiers()), false);
            checkNames(inside, names);
        }
        checkNames(type, names);
        for (Field f : type.getDeclaredFields()) {
            boolean isNone = f.getName().equals("NONE");
            Check.due(f + " can be seen", !Modifier.isPrivate(f.getModifiers()), isNone);
            Check.due(f + " is final where it is static", !Modifier.isStatic(f.getModifiers()) || Modifier.isFinal(f.getModifiers()), true);
        }
        Constructor<?>[] made = type.getDeclaredConstructors();
        Check.due("constructors", made.length, 1);
        Check.due("its parameters", made[0].getParameterCount(), 0);
        Check.due("it is public", made[0].getModifiers(), Modifier.PUBLIC);
        Check.due("NONE", MustardPast.NONE, -1);
        Check.end();
    }

    private static void checkNames(Class<?> type, Set<String> names) {
        for (Method m : type.getDeclaredMethods()) {
            if (Modifier.isPrivate(m.getModifiers()) || type != MustardPast.class) {
                Check.due(m + " bears a public name", names.contains(m.getName()), false);
            }
            Check.due(m + " has seven parameters at most", m.getParameterCount() <= 7, true);
        }
    }

    private static String told(Method m) {
        StringBuilder s = new StringBuilder(m.getReturnType() + " " + m.getName() + "(");
        for (Class<?> p : m.getParameterTypes()) {
            s.append(s.charAt(s.length() - 1) == '(' ? "" : ",").append(p);
        }
        return s.append(")").toString();
    }
}
