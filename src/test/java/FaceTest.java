import java.lang.reflect.Constructor;
import java.lang.reflect.Field;
import java.lang.reflect.Method;
import java.lang.reflect.Modifier;
import java.util.Arrays;
import java.util.HashSet;
import java.util.Set;
import java.util.TreeSet;

/** The public face is just the document's, and private methods bear other names. */
public final class FaceTest {
  private static final String[] METHODS = {
    "int device(int, int, int, int)", "int use(int)", "int release(int)", "boolean waker(int, boolean)",
    "boolean refuse(int, int)", "int signal(int)", "int sleep()", "boolean watch(int)", "int kick()",
    "int tick(int)", "int phase()", "int state(int)", "int uses(int)", "int idle(int)",
    "int refusals(int)", "int due()", "int left()", "int named()", "int figure(int)"
  };

  public static void main(String[] args) {
    Checks checks = new Checks();
    checks.about("face");
    checks.due("class", Modifier.toString(DozingDevices.class.getModifiers()), "public final");
    checks.due("methods", visibleMethods(), new TreeSet<>(Arrays.asList(METHODS)));
    checks.due("constructors", constructors(), "[public DozingDevices()]");
    checks.due("fields", visibleFields(), "[BAD, BUSY, FULL, NONE]");
    checks.due("private methods with a public one's name", sharedNames(), Set.of());
    checks.due("static fields that are not final", looseStatics(), Set.of());
    checks.due("NONE", DozingDevices.NONE, -1);
    checks.due("BAD", DozingDevices.BAD, -2);
    checks.due("BUSY", DozingDevices.BUSY, -3);
    checks.due("FULL", DozingDevices.FULL, -4);
    checks.end();
  }

  private static Set<String> visibleMethods() {
    Set<String> all = new TreeSet<>();
    for (Method m : DozingDevices.class.getDeclaredMethods()) {
      if (Modifier.isPrivate(m.getModifiers())) continue;
      String types = Arrays.toString(m.getParameterTypes());
      String modifiers = Modifier.toString(m.getModifiers());
      all.add((modifiers.equals("public") ? "" : modifiers + " ")
          + m.getReturnType() + " " + m.getName() + "(" + types.substring(1, types.length() - 1) + ")");
    }
    return all;
  }

  private static String constructors() {
    Constructor<?>[] all = DozingDevices.class.getDeclaredConstructors();
    return Arrays.toString(all);
  }

  private static String visibleFields() {
    Set<String> all = new TreeSet<>();
    for (Field f : DozingDevices.class.getDeclaredFields()) {
      if (Modifier.isPrivate(f.getModifiers())) continue;
      boolean constant = Modifier.toString(f.getModifiers()).equals("public static final")
          && f.getType() == int.class;
      all.add(constant ? f.getName() : f.toString());
    }
    return all.toString();
  }

  private static Set<String> sharedNames() {
    Set<String> open = new HashSet<>();
    Set<String> hidden = new HashSet<>();
    for (Method m : DozingDevices.class.getDeclaredMethods()) {
      (Modifier.isPrivate(m.getModifiers()) ? hidden : open).add(m.getName());
    }
    hidden.retainAll(open);
    return hidden;
  }

  private static Set<String> looseStatics() {
    Set<String> all = new HashSet<>();
    for (Field f : DozingDevices.class.getDeclaredFields()) {
      if (Modifier.isStatic(f.getModifiers()) && !Modifier.isFinal(f.getModifiers())) all.add(f.getName());
    }
    return all;
  }
}
