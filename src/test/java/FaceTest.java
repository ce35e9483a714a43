import java.lang.reflect.Constructor;
import java.lang.reflect.Method;
import java.lang.reflect.Modifier;
import java.util.Arrays;
import java.util.Set;
import java.util.TreeSet;

/** The public face: just the constructor and the methods that the document tells. */
public final class FaceTest {
  private static final String[] FACE = {"int egg(int)", "int set(int,int)", "int shell(int,int)", "int fresh()",
    "int pot(int,int)", "int go(int,int)", "int state(int)", "int had(int)", "int least(int,int)",
    "int near(int,int,int,int)", "int found(int,int,int)", "int bears(int,int,int)", "int off(int,int)",
    "int size(int,int,int)", "int table(int,int,int)", "int cracks(int)", "int peels(int)", "int spin()",
    "int told(int,int,boolean)", "int judge(int,int,int)", "int image()", "int restore()", "int count(int)",
    "int keep(int,int,int,int)", "int row(int,int,int)", "int put(int,int,int)", "long element(int,int)",
    "int copy(int,int,int,int,int)", "int weight(int)", "int toss(int)"};

  public static void main(String[] args) {
    Check check = new Check("FaceTest");
    Class<?> c = EggMinute.class;
    check.dueTrue("public and final", Modifier.isPublic(c.getModifiers()) && Modifier.isFinal(c.getModifiers()));
    Set<String> face = new TreeSet<>(Arrays.asList(FACE));
    Set<String> names = new TreeSet<>();
    Set<String> seen = new TreeSet<>();
    for (Method m : c.getDeclaredMethods()) {
      if (Modifier.isPublic(m.getModifiers())) {
        String types = String.join(",", Arrays.stream(m.getParameterTypes()).map(Class::getName).toList());
        seen.add(m.getReturnType().getName() + " " + m.getName() + "(" + types + ")");
        names.add(m.getName());
        check.dueTrue(m + " isn't static", !Modifier.isStatic(m.getModifiers()));
        int thrown = m.getName().equals("element") ? 2 : 0;
        check.due(m + " tells of exceptions", m.getExceptionTypes().length, thrown);
      }
    }
    check.dueTrue("the methods are " + face + ", not " + seen, face.equals(seen));
    for (Method m : c.getDeclaredMethods()) {
      if (!Modifier.isPublic(m.getModifiers())) {
        check.dueTrue(m + " is private", Modifier.isPrivate(m.getModifiers()));
        check.dueTrue(m + " has a name of its own", !names.contains(m.getName()));
      }
    }
    for (java.lang.reflect.Field f : c.getDeclaredFields()) {
      check.dueTrue(f + " is private", Modifier.isPrivate(f.getModifiers()));
      boolean changing = Modifier.isStatic(f.getModifiers()) && !Modifier.isFinal(f.getModifiers());
      check.dueTrue(f + " is no static state", !changing);
    }
    Constructor<?>[] made = c.getDeclaredConstructors();
    check.due("one constructor", made.length, 1);
    check.due("without parameters", made[0].getParameterCount(), 0);
    check.dueTrue("public", Modifier.isPublic(made[0].getModifiers()));
    for (Class<?> inside : c.getDeclaredClasses()) {
      check.dueTrue(inside + " is static", Modifier.isStatic(inside.getModifiers()));
      check.dueTrue(inside + " isn't public", !Modifier.isPublic(inside.getModifiers()));
    }
    check.dueTrue("some twelve classes", c.getDeclaredClasses().length <= 12);
    check.end();
  }
}
