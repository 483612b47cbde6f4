import java.lang.reflect.Constructor;
import java.lang.reflect.Field;
import java.lang.reflect.Method;
import java.lang.reflect.Modifier;
import java.util.ArrayList;
import java.util.List;
import java.util.Set;
import java.util.TreeSet;

/** The public face of the document, and what LANGUAGE.md says of members (rules 1, 5 and 11). */
public final class FaceTest {
    private static final String FACE = """
            int append(int, int, int, int, int) IllegalStateException
            void truncate(int) IllegalArgumentException
            int load() IllegalArgumentException
            int errorOffset()
            int count(int) IllegalArgumentException
            int setting(int) IllegalArgumentException
            int room(int, int) IndexOutOfBoundsException, IllegalArgumentException
            int booking(int, int) IndexOutOfBoundsException, IllegalArgumentException
            int find(boolean) NoSuchElementException
            int state(int) IndexOutOfBoundsException
            int waiting(int) IndexOutOfBoundsException
            int placed(int) IndexOutOfBoundsException
            int roomsOf(int) IndexOutOfBoundsException
            int roomOf(int, int) IndexOutOfBoundsException, NoSuchElementException
            int bedOf(int, int) IndexOutOfBoundsException, NoSuchElementException
            int occupant(int, int, int) IndexOutOfBoundsException
            int freeBeds(int, int) IndexOutOfBoundsException
            int occupied(int) IndexOutOfBoundsException
            int booked(int) IndexOutOfBoundsException
            int walked(int) IndexOutOfBoundsException
            int fullNights()
            int longestFree(int, int) IndexOutOfBoundsException
            int splits()
            int extendable(int) IndexOutOfBoundsException
            int pays(int) IndexOutOfBoundsException
            int walkCost()
            int net()
            double chance(int, int) IndexOutOfBoundsException
            double risk(int) IndexOutOfBoundsException
            double expectedWalks(int) IndexOutOfBoundsException
            int wouldBe(int, int, int, int, int) IllegalArgumentException
            int bestStay(int, int, int, int) IllegalArgumentException
            int netWithout(int) IndexOutOfBoundsException
            int bestOver()
            int book(int, int, int, int, int, int) IllegalArgumentException, IllegalStateException
            int cancel(int) IndexOutOfBoundsException, IllegalStateException
            boolean setAbsent(int, boolean) IndexOutOfBoundsException
            boolean setTogether(int, boolean) IndexOutOfBoundsException
            int setOver(int) IllegalArgumentException
            int setWalk(int) IllegalArgumentException
            int setPrice(int, int) IndexOutOfBoundsException, IllegalArgumentException
            int undo() IllegalStateException
            int format(int) IndexOutOfBoundsException
            char formattedCharacter(int) IndexOutOfBoundsException
            """;

    public static void main(String[] args) {
        Class<?> face = HostelBeds.class;
        Check.due("class", Modifier.toString(face.getModifiers()), "public final");
        Set<String> names = methods(face);
        fields(face);
        constructors(face);
        Check.due("some twelve classes", face.getDeclaredClasses().length < 12, true);
        for (Class<?> inside : face.getDeclaredClasses()) {
            Check.due(inside + " is static", Modifier.isStatic(inside.getModifiers()), true);
            Check.due(inside + " is hidden", Modifier.isPublic(inside.getModifiers()), false);
            small(inside);
            for (Method method : inside.getDeclaredMethods()) {
                Check.due(method + " bears a name of the face", names.contains(method.getName()), false);
            }
        }
        Check.finish();
    }

    private static Set<String> methods(Class<?> face) {
        Set<String> got = new TreeSet<>();
        Set<String> names = new TreeSet<>();
        for (Method method : face.getDeclaredMethods()) {
            if (Modifier.isPublic(method.getModifiers())) {
                got.add(told(method));
                names.add(method.getName());
            }
        }
        Check.due("face", got, new TreeSet<>(List.of(FACE.split("\n"))));
        for (Method method : face.getDeclaredMethods()) {
            if (!Modifier.isPublic(method.getModifiers())) {
                Check.due(method + " is private", Modifier.isPrivate(method.getModifiers()), true);
                Check.due(method + " bears a name of the face", names.contains(method.getName()), false);
            }
        }
        small(face);
        return names;
    }

    private static String told(Method method) {
        return method.getReturnType() + " " + method.getName() + "(" + names(method.getParameterTypes()) + ")"
                + (method.getExceptionTypes().length > 0 ? " " + names(method.getExceptionTypes()) : "");
    }

    private static String names(Class<?>[] types) {
        List<String> names = new ArrayList<>();
        for (Class<?> type : types) {
            names.add(type.getSimpleName());
        }
        return String.join(", ", names);
    }

    private static void fields(Class<?> face) {
        for (Field field : face.getDeclaredFields()) {
            boolean isPublic = field.getName().equals("NONE");
            Check.due(field.getName() + " is public", Modifier.isPublic(field.getModifiers()), isPublic);
            Check.due(field.getName() + " is private", Modifier.isPrivate(field.getModifiers()), !isPublic);
        }
    }

    private static void constructors(Class<?> face) {
        Constructor<?>[] all = face.getDeclaredConstructors();
        Check.due("constructors", all.length, 1);
        Check.due("constructor", all[0].toGenericString(), "public HostelBeds()");
    }

    /** Few fields, static ones final, few parameters. */
    private static void small(Class<?> some) {
        int fields = 0;
        for (Field field : some.getDeclaredFields()) {
            if (Modifier.isStatic(field.getModifiers())) {
                Check.due(field + " is final", Modifier.isFinal(field.getModifiers()), true);
            } else {
                fields++;
            }
        }
        Check.due("some twenty fields in " + some, fields <= 20, true);
        for (Method method : some.getDeclaredMethods()) {
            Check.due("seven parameters of " + method, method.getParameterCount() <= 7, true);
        }
    }
}
