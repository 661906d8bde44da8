import java.lang.reflect.Constructor;
import java.lang.reflect.Field;
import java.lang.reflect.Method;
import java.lang.reflect.Modifier;
import java.util.ArrayList;
import java.util.List;
import java.util.TreeSet;

/** The public face: the class, its constants and its methods are those of the document, and there are no others. */
public final class FaceTest {
  private static final String[] METHODS = {
    "int set(int,int)", "int quarry(int,int,int,int)", "int cut(int,int,int)", "int shelter(int)", "int order(int,int,int)",
    "int give(int,int)", "int takeBack(int)", "int limits(int,int,int,int)", "int load(int,int,int)", "int unload(int)",
    "int leave(int)", "int night(int)", "int of(int,int)", "int ofOrder(int,int)", "int ofLorry(int,int)", "int count(int)",
    "long meanWeight()", "int why(int)", "int bestBlock(int)", "int fittingCut(int,int,int)", "int ifFrost()",
    "int bestPlace(int,int)", "int put(long)", "int wipe()", "int fault()", "int carryOut()", "int undo()", "int save(int)",
    "int restore(int)"
  };
  private static final String[] CONSTANTS = {
    "NO_SUCH=-1", "BAD_VALUE=-2", "BAD_TEXT=-3", "TOO_MANY=-4", "NOT_POSSIBLE=-5", "NONE=-6", "SAW=0", "PRICE=1", "FROST=2",
    "OVER=3"
  };

  private static String told(Method method) {
    List<String> types = new ArrayList<>();
    for (Class<?> type : method.getParameterTypes()) {
      types.add(type.getName());
    }
    return method.getReturnType().getName() + " " + method.getName() + "(" + String.join(",", types) + ")";
  }

  private static TreeSet<String> methods() {
    TreeSet<String> found = new TreeSet<>();
    for (Method method : QuarryOrders.class.getDeclaredMethods()) {
      if (!Modifier.isPrivate(method.getModifiers()) && !method.isSynthetic()) {
        found.add((Modifier.isPublic(method.getModifiers()) ? "" : "not public: ") + told(method));
      }
    }
    return found;
  }

  private static TreeSet<String> constants() throws IllegalAccessException {
    TreeSet<String> found = new TreeSet<>();
    for (Field field : QuarryOrders.class.getDeclaredFields()) {
      int how = field.getModifiers();
      if (!Modifier.isPrivate(how)) {
        boolean constant = Modifier.isPublic(how) && Modifier.isStatic(how) && Modifier.isFinal(how) && field.getType() == int.class;
        found.add(constant ? field.getName() + "=" + field.getInt(null) : "no constant: " + field.getName());
      }
    }
    return found;
  }

  private static boolean hidesNoPublicName() {
    TreeSet<String> names = new TreeSet<>();
    for (Method method : QuarryOrders.class.getMethods()) {
      names.add(method.getName());
    }
    for (Method method : QuarryOrders.class.getDeclaredMethods()) {
      if (Modifier.isPrivate(method.getModifiers()) && names.contains(method.getName())) {
        return false;
      }
    }
    return true;
  }

  private static boolean hasOneConstructor() {
    Constructor<?>[] all = QuarryOrders.class.getDeclaredConstructors();
    return all.length == 1 && Modifier.isPublic(all[0].getModifiers()) && all[0].getParameterCount() == 0;
  }

  public static void main(String[] args) throws IllegalAccessException {
    Checks checks = new Checks("FaceTest");
    int how = QuarryOrders.class.getModifiers();
    checks.holds("the class is public and final", Modifier.isPublic(how) && Modifier.isFinal(how));
    checks.holds("there is one constructor, public and without arguments", hasOneConstructor());
    checks.holds("the methods are " + methods(), methods().equals(new TreeSet<>(List.of(METHODS))));
    checks.holds("the constants are " + constants(), constants().equals(new TreeSet<>(List.of(CONSTANTS))));
    checks.holds("no private method bears the name of a public one", hidesNoPublicName());
    checks.end();
  }
}
