import java.lang.reflect.Constructor;
import java.lang.reflect.Field;
import java.lang.reflect.Method;
import java.lang.reflect.Modifier;
import java.util.Set;
import java.util.TreeSet;

/** The public face is the one of the document, and all else of the class is private. */
public final class FaceTest {
    private static final String INDEX = " throws java.lang.IndexOutOfBoundsException";
    private static final String BOTH = INDEX + ",java.lang.IllegalArgumentException";
    private static final String[] FACE = {
        "public static final int PlaneFills.NONE",
        "public PlaneFills(int)",
        "public int PlaneFills.plane(int,int,int)" + BOTH,
        "public boolean PlaneFills.corner(int,long,long)" + BOTH,
        "public boolean PlaneFills.ring(int)" + INDEX,
        "public int PlaneFills.obstacle(int,int,long,long,long)" + BOTH,
        "public boolean PlaneFills.rule(int,long)" + BOTH,
        "public int PlaneFills.pad(int,int,long,long,long,long)" + BOTH,
        "public int PlaneFills.fill()",
        "public int PlaneFills.rings(int,int)" + INDEX,
        "public long PlaneFills.at(int,int,int,int,int)" + INDEX,
        "public boolean PlaneFills.in(int,long,long)" + INDEX,
        "public int PlaneFills.islands(int)" + INDEX,
        "public int PlaneFills.spoke(int,int,int)" + INDEX,
        "public int PlaneFills.stitch(int,long) throws java.lang.IllegalArgumentException",
        "public boolean PlaneFills.hatch(int,long,long)" + BOTH,
        "public boolean PlaneFills.changed(long,long,long,long)",
        "public boolean PlaneFills.narrow(int)" + INDEX
    };

    public static void main(String[] args) {
        Set<String> due = new TreeSet<>(Set.of(FACE));
        Set<String> got = new TreeSet<>();
        Set<String> publicNames = new TreeSet<>();
        Set<String> privateNames = new TreeSet<>();
        for (Field field : PlaneFills.class.getDeclaredFields()) {
            if (!Modifier.isPrivate(field.getModifiers())) {
                got.add(field.toString());
            }
        }
        for (Constructor<?> constructor : PlaneFills.class.getDeclaredConstructors()) {
            got.add(constructor.toString());
        }
        for (Method method : PlaneFills.class.getDeclaredMethods()) {
            boolean hidden = Modifier.isPrivate(method.getModifiers());
            (hidden ? privateNames : publicNames).add(method.getName());
            if (!hidden) {
                got.add(method.toString());
            }
        }
        for (Class<?> inside : PlaneFills.class.getDeclaredClasses()) {
            for (Method method : inside.getDeclaredMethods()) {
                privateNames.add(method.getName());
            }
        }
        boolean right = got.equals(due) && Modifier.isFinal(PlaneFills.class.getModifiers());
        if (!right) {
            System.out.println("the face is " + got + ", due is " + due);
        }
        privateNames.retainAll(publicNames);
        if (!privateNames.isEmpty()) {
            System.out.println("private methods bear public names: " + privateNames);
            right = false;
        }
        System.out.println(right ? "the face is as due" : "the face is not as due");
        if (!right) {
            System.exit(1);
        }
    }
}
