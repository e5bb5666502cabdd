import java.lang.reflect.Constructor;
import java.lang.reflect.Field;
import java.lang.reflect.Method;
import java.lang.reflect.Modifier;
import java.util.Set;
import java.util.TreeSet;

/** The class has the document's face: each call with its types and exceptions, and nothing else that is not private. */
public final class FaceTests {
  private static final String INDEX = "IndexOutOfBoundsException";
  private static final String ARGUMENT = "IllegalArgumentException";
  private static final String STATE = "IllegalStateException";

  private static final String[] FACE = {
    "int mark(int,int) " + INDEX + " " + ARGUMENT,
    "int rocks(int,int) " + INDEX + " " + ARGUMENT,
    "int gate(int,int) " + INDEX + " " + ARGUMENT,
    "int fell(int,int,int,int,int) " + INDEX + " " + ARGUMENT + " " + STATE,
    "int hammer(int,int) " + INDEX + " " + ARGUMENT + " " + STATE,
    "int boom(int) " + ARGUMENT,
    "int crew(int) " + ARGUMENT,
    "int order(int,int,int,int) " + ARGUMENT + " " + STATE,
    "int roll(int) " + INDEX,
    "int pass(int,int) " + ARGUMENT,
    "int pull(int) " + INDEX + " " + STATE,
    "int blast(int) " + INDEX + " " + STATE,
    "int push(int) " + INDEX + " " + STATE,
    "int storm(int) " + ARGUMENT,
    "int sort(int) " + ARGUMENT,
    "int share()",
    "int settle(int) " + ARGUMENT,
    "int raft(int,int,int) " + INDEX + " " + ARGUMENT,
    "int raise(int,int) " + INDEX + " " + STATE,
    "int ofOwner(int,int) " + INDEX + " " + ARGUMENT,
    "int ofReach(int,int) " + INDEX + " " + ARGUMENT,
    "int ofLog(int,int) " + INDEX + " " + ARGUMENT,
    "int row(int,int) " + INDEX + " " + ARGUMENT,
    "int scale(int,int) " + INDEX + " " + ARGUMENT,
    "int many(int) " + ARGUMENT,
    "double meanSoaked()",
    "int boomIn(int,int) " + ARGUMENT,
    "int freeIn(int,int) " + INDEX + " " + ARGUMENT,
    "int bestGate(int,int,int) " + INDEX + " " + ARGUMENT,
    "long digest()",
  };

  private static int wrong = 0;

  public static void main(String[] args) {
    Set<String> due = new TreeSet<>(Set.of(FACE));
    Set<String> found = new TreeSet<>();
    for (Method method : BoomSorters.class.getDeclaredMethods()) {
      if (Modifier.isPublic(method.getModifiers())) {
        found.add(face(method));
        check(!Modifier.isStatic(method.getModifiers()), "static: " + method);
      } else {
        check(Modifier.isPrivate(method.getModifiers()), "neither public nor private: " + method);
        check(!isFaceName(method.getName()), "a private method with a public one's name: " + method);
      }
    }
    check(found.equals(due), "the face is " + found + ", due is " + due);
    for (Field field : BoomSorters.class.getDeclaredFields()) {
      check(Modifier.isPrivate(field.getModifiers()), "a field that is not private: " + field);
    }
    for (Constructor<?> constructor : BoomSorters.class.getDeclaredConstructors()) {
      check(constructor.toString().equals("public BoomSorters()"), "a constructor too many: " + constructor);
    }
    int kind = BoomSorters.class.getModifiers();
    check(Modifier.isPublic(kind) && Modifier.isFinal(kind), "the class is not public and final");
    check(BoomSorters.class.getPackageName().isEmpty(), "the class has a package");
    System.out.println(wrong == 0 ? "the face is as due" : wrong + " faults of the face");
    if (wrong != 0) {
      System.exit(1);
    }
  }

  private static void check(boolean stands, String fault) {
    if (!stands) {
      wrong++;
      System.out.println(fault);
    }
  }

  private static boolean isFaceName(String name) {
    for (String call : FACE) {
      if (call.contains(" " + name + "(")) {
        return true;
      }
    }
    return false;
  }

  private static String face(Method method) {
    StringBuilder face = new StringBuilder();
    face.append(method.getReturnType().getSimpleName()).append(' ').append(method.getName()).append('(');
    String comma = "";
    for (Class<?> type : method.getParameterTypes()) {
      face.append(comma).append(type.getSimpleName());
      comma = ",";
    }
    face.append(')');
    for (Class<?> exception : method.getExceptionTypes()) {
      face.append(' ').append(exception.getSimpleName());
    }
    return face.toString();
  }
}
