import java.lang.reflect.Constructor;
import java.lang.reflect.Field;
import java.lang.reflect.Method;
import java.lang.reflect.Modifier;
import java.util.Arrays;
import java.util.Set;
import java.util.TreeSet;
import java.util.stream.Collectors;

/** The public face is the document's, word for word, and nothing else can be seen from outside. */
final class FaceTest {
    private static final String FACE = """
        int feed(int)
        int hall()
        int coupleOf(int,int)
        int order(int)
        int free(int)
        int couple(int,int,int)
        int rooms(int)
        int weds(int)
        int pulls(int)
        int slack(int)
        int rests(int)
        int back()
        int when(int,int)
        int waits(int)
        int all(int)
        int met(int)
        int best(int)
        int pull()
        int bestSlack(int)
        int rest()
        int saved()
        int can(int,int,int)
        int fountain(int)
        int fountains(int)
        int inside(int)
        int crowded()
        int price(int)
        long odds(int,int,int,int)
        int two(int,int)
        int whatWas(int,int)
        int longest(int)
        long mean(int)
        int early()
        int worst()
        int idle()
        int span()
        int swap()
        int turned()
        int shift()
        int row(int)
        int judge()
        int clear()
        int lots(int,int,int)
        int image()
        int restore()
        int count(int)
        """;

    public static void main(String[] args) {
        Class<?> c = EveryTwentyMinutes.class;
        Set<String> seen = new TreeSet<>();
        Set<String> hidden = new TreeSet<>();
        boolean good = Modifier.isPublic(c.getModifiers()) && Modifier.isFinal(c.getModifiers()) && c.getPackageName().isEmpty();
        for (Method m : c.getDeclaredMethods()) {
            if (m.isSynthetic()) continue;
            if (Modifier.isPrivate(m.getModifiers())) hidden.add(m.getName());
            else {
                good &= Modifier.isPublic(m.getModifiers()) && !Modifier.isStatic(m.getModifiers());
                seen.add(m.getReturnType() + " " + m.getName() + "(" + Arrays.stream(m.getParameterTypes()).map(Class::getName).collect(Collectors.joining(",")) + ")");
            }
        }
        for (Field f : c.getDeclaredFields()) good &= Modifier.isPrivate(f.getModifiers());
        Constructor<?>[] made = c.getDeclaredConstructors();
        good &= made.length == 1 && Modifier.isPublic(made[0].getModifiers()) && made[0].getParameterCount() == 0;
        for (Class<?> in : c.getDeclaredClasses()) good &= Modifier.isStatic(in.getModifiers()) && (in.getModifiers() & (Modifier.PUBLIC | Modifier.PROTECTED)) == 0;
        Set<String> due = new TreeSet<>(FACE.lines().toList());
        good &= seen.equals(due);
        for (String s : due) good &= !hidden.contains(s.substring(s.indexOf(' ') + 1, s.indexOf('(')));
        System.out.println(good ? "the face is the document's" : "the face is not the document's: " + seen);
        if (!good) System.exit(1);
    }
}
