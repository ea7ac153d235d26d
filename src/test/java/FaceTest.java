import java.lang.reflect.Constructor;
import java.lang.reflect.Field;
import java.lang.reflect.Method;
import java.lang.reflect.Modifier;
import java.util.Set;
import java.util.TreeSet;

/** The public face, and promise 1: a new object. */
public final class FaceTest {
  private static final Set<String> FACE = Set.of(
      "boolean load(int, long, int)", "int word(int)", "boolean set(int, int)", "int get(int)",
      "boolean punch(long, int)", "boolean card()", "int step(int)", "int channel(int)",
      "int look(int)", "int printed(int)");

  public static void main(String[] args) {
    faceIsTheDocuments();
    newObjectIsEmpty();
    objectsShareNothing();
    Bench.finish();
  }

  private static void faceIsTheDocuments() {
    Bench bench = new Bench("face");
    Set<String> found = new TreeSet<>();
    for (Method method : SmallFrame.class.getDeclaredMethods()) {
      if (Modifier.isPublic(method.getModifiers())) {
        found.add(written(method));
      } else {
        bench.due(method + " is private", Modifier.isPrivate(method.getModifiers()), true);
      }
    }
    bench.due("the public methods are " + found, found.equals(new TreeSet<>(FACE)), true);
    for (Field field : SmallFrame.class.getDeclaredFields()) {
      bench.due(field + " is private", Modifier.isPrivate(field.getModifiers()), true);
    }
    Constructor<?>[] constructors = SmallFrame.class.getDeclaredConstructors();
    bench.due("constructors", constructors.length, 1);
    bench.due("its parameters", constructors[0].getParameterCount(), 0);
    bench.due("it is public", Modifier.isPublic(constructors[0].getModifiers()), true);
    int modifiers = SmallFrame.class.getModifiers();
    bench.due("class is public and final",
        Modifier.isPublic(modifiers) && Modifier.isFinal(modifiers), true);
  }

  private static String written(Method method) {
    StringBuilder text = new StringBuilder();
    text.append(method.getReturnType().getName()).append(' ').append(method.getName()).append('(');
    for (int k = 0; k < method.getParameterCount(); k++) {
      text.append(k == 0 ? "" : ", ").append(method.getParameterTypes()[k].getName());
    }
    return text.append(')').toString();
  }

  private static void newObjectIsEmpty() {
    Bench bench = new Bench("new object");
    Bench upper = new Bench("upper half of a new object");
    // An object is good for 512 calls, so each half of the storage has its own.
    for (int address = 0; address < 1024; address += 4) {
      bench.word(address, 0);
      upper.word(1024 + address, 0);
    }
    for (int what = 0; what < 28; what++) {
      bench.has(what, 0);
    }
    for (int what = 0; what < 8; what++) {
      bench.looks(what, 0);
    }
    bench.prints(0, -1);
    bench.moves(50, 0);
  }

  private static void objectsShareNothing() {
    Bench one = new Bench("one object");
    one.put(0, "FF").set(3, 9).set(Bench.MASK, 7).record("01");
    Bench other = new Bench("another object");
    other.word(0, 0).has(3, 0).has(Bench.MASK, 0).looks(3, 0);
  }
}
