import java.lang.reflect.Constructor;
import java.lang.reflect.Field;
import java.lang.reflect.Method;
import java.lang.reflect.Modifier;
import java.util.TreeSet;

/** The public face as the document has it, and no more room than many objects can share. */
public final class FaceTest {
    public static void main(String[] args) throws IllegalAccessException {
        theFace();
        theRoom();
        Probe.end();
    }

    private static void theFace() {
        Class<?> face = TypedTermReader.class;
        Probe.due("the class", Modifier.toString(face.getModifiers()), "public final");
        TreeSet<String> members = new TreeSet<>();
        for (Method method : face.getDeclaredMethods()) {
            if (!Modifier.isPrivate(method.getModifiers())) {
                members.add(method.toString());
            }
        }
        for (Constructor<?> constructor : face.getDeclaredConstructors()) {
            members.add(constructor.toString());
        }
        for (Field field : face.getDeclaredFields()) {
            if (!Modifier.isPrivate(field.getModifiers())) {
                members.add(field.toString());
            }
        }
        String n = "(int) throws java.lang.IllegalArgumentException";
        String i = " throws java.lang.IndexOutOfBoundsException";
        TreeSet<String> due = new TreeSet<>();
        due.add("public TypedTermReader()");
        due.add("public boolean TypedTermReader.feed(int,int,int,int,int)");
        due.add("public int TypedTermReader.term" + n);
        due.add("public int TypedTermReader.constant" + n);
        due.add("public int TypedTermReader.type" + n);
        due.add("public int TypedTermReader.fault()");
        due.add("public int TypedTermReader.place()");
        due.add("public int TypedTermReader.symbol(int)" + i);
        due.add("public int TypedTermReader.typeSymbol(int,int)" + i);
        Probe.due("the members", members.toString(), due.toString());
    }

    private static void theRoom() throws IllegalAccessException {
        Probe probe = new Probe();
        long atFirst = roomOf(probe.reader);
        Probe.due("less room than 250000 elements (" + atFirst + ")", atFirst < 250000 ? 1 : 0, 1);
        probe.term("!x y. x = y ==> y = x");
        probe.term("T" + "/\\T".repeat(2000));
        Probe.due("room behind calls", roomOf(probe.reader), atFirst);
    }

    /** Elements and fields of the object and all that only it holds; what is shared counts each time. */
    private static long roomOf(Object holder) throws IllegalAccessException {
        long room = 0;
        for (Field field : holder.getClass().getDeclaredFields()) {
            if (Modifier.isStatic(field.getModifiers())) {
                continue;
            }
            room++;
            field.setAccessible(true);
            Object value = field.get(holder);
            if (value instanceof int[]) {
                room += ((int[]) value).length;
            } else if (value instanceof byte[]) {
                room += ((byte[]) value).length;
            } else if (!field.getType().isPrimitive() && isOwn(holder, value)) {
                room += roomOf(value);
            }
        }
        return room;
    }

    /** The reader holds each of its parts itself, so a part's own parts are those made for it alone. */
    private static boolean isOwn(Object holder, Object part) {
        String name = part.getClass().getSimpleName();
        return holder instanceof TypedTermReader || name.equals("NameTable") || name.equals("Scope")
                || name.equals("TermTree");
    }
}
