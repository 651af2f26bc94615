import java.lang.reflect.Constructor;
import java.lang.reflect.Field;
import java.lang.reflect.Method;
import java.lang.reflect.Modifier;
import java.util.NoSuchElementException;
import java.util.Set;
import java.util.TreeSet;

/** The public face is the document's, and no other member can be seen from outside. */
final class FaceTest {
    private static final Check check = new Check();

    /** Each method with how many ints it takes. */
    private static final String METHODS = "feed 5,text 1,fault 0,where 0,about 1,course 2,code 2,runner 2,punch 3,misses 2,"
        + "fits 1,missed 1,split 3,leg 3,best 3,leads 2,changes 1,ranked 2,lost 1,worst 1,pace 2,mistakes 1,clean 1,"
        + "cleanPlace 2,without 3,hardest 2,packs 1,pack 3,together 2,alone 1,chase 3,team 2,mate 1,passes 2,crowd 1,"
        + "over 3,common 2,add 3,drop 2,start 2,finish 2,move 2,become 2,recode 3,cancel 2,undo 0,size 0,trouble 0";

    public static void main(String[] args) throws Exception {
        methods();
        fields();
        check.due("the class is public and final", ForestLegs.class.getModifiers(), Modifier.PUBLIC | Modifier.FINAL);
        Constructor<?>[] constructors = ForestLegs.class.getDeclaredConstructors();
        check.due("one constructor", constructors.length, 1);
        check.due("it is public", constructors[0].getModifiers(), Modifier.PUBLIC);
        check.due("it takes nothing", constructors[0].getParameterCount(), 0);
        for (Class<?> inside : ForestLegs.class.getDeclaredClasses()) {
            boolean seen = Modifier.isPublic(inside.getModifiers()) || Modifier.isProtected(inside.getModifiers());
            check.due(inside + " is hidden and static", !seen && Modifier.isStatic(inside.getModifiers()) ? 1 : 0, 1);
        }
        check.end();
    }

    private static void methods() throws Exception {
        Set<String> due = new TreeSet<>();
        for (String row : METHODS.split(",")) {
            String[] parts = row.split(" ");
            Class<?>[] ints = new Class<?>[Integer.parseInt(parts[1])];
            java.util.Arrays.fill(ints, int.class);
            Method method = ForestLegs.class.getDeclaredMethod(parts[0], ints);
            check.due(parts[0] + " is public", method.getModifiers(), Modifier.PUBLIC);
            check.due(parts[0] + " answers an int", method.getReturnType() == int.class ? 1 : 0, 1);
            check.due(parts[0] + " tells no exception", method.getExceptionTypes().length, 0);
            due.add(parts[0]);
        }
        Method named = ForestLegs.class.getDeclaredMethod("named", int.class, boolean.class);
        check.due("named is public", named.getModifiers(), Modifier.PUBLIC);
        check.due("named tells its exception", named.getExceptionTypes()[0] == NoSuchElementException.class ? 1 : 0, 1);
        due.add("named");
        check.due("methods of the document", due.size(), 49);
        Set<String> seen = new TreeSet<>();
        for (Method method : ForestLegs.class.getDeclaredMethods()) {
            boolean open = !Modifier.isPrivate(method.getModifiers());
            check.due(method + " bears a name of the face just if it is of it", due.contains(method.getName()) == open ? 1 : 0, 1);
            if (open) {
                check.due(method + " is there once", seen.add(method.getName()) ? 1 : 0, 1);
            }
        }
        for (Class<?> inside : ForestLegs.class.getDeclaredClasses()) {
            for (Method method : inside.getDeclaredMethods()) {
                check.due(method + " bears no name of the face", due.contains(method.getName()) ? 1 : 0, 0);
            }
        }
    }

    private static void fields() throws Exception {
        Field none = ForestLegs.class.getDeclaredField("NONE");
        check.due("NONE", none.getModifiers(), Modifier.PUBLIC | Modifier.STATIC | Modifier.FINAL);
        for (Field field : ForestLegs.class.getDeclaredFields()) {
            check.due(field + " is private", field.getName().equals("NONE") || Modifier.isPrivate(field.getModifiers()) ? 1 : 0, 1);
        }
    }
}
