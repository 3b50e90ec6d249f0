import java.lang.reflect.Constructor;
import java.lang.reflect.Field;
import java.lang.reflect.Method;
import java.lang.reflect.Modifier;
import java.util.Arrays;
import java.util.Set;
import java.util.TreeSet;

/** The public face is just that of the document: no member less, none more. */
public final class FaceTest {
  private static final String[] FACE = {
    "int row(int,int,int)", "int set(int,int,long)", "int copy(int,int,int,int,int)",
    "long element(int,int)", "int holds(int)", "int show(int,int)", "int says(int,int)",
    "int line(int,int,int)", "int alter(int,int,int)", "int strike(int)", "int price(int)",
    "int feed(int)", "int wipe()", "int table()", "int cond()", "int test(int,int,int)",
    "int among(int,int)", "int gone(int)", "int columns(int,int,int)", "int rest(int,int,int)",
    "int several(int,int,int)", "int pair(int,int,int)", "int turn(int,int)", "int drop()",
    "int condOf(int,int)", "int lineOf(int,int)", "int keyOf(int,int)", "int truth(int,int,int)",
    "int keys(int,int)", "int lines(int,int)", "int values(int,int)", "int runs(int,int)",
    "int run(int,int,int)", "int plan(int,int,int,int)", "int of(int,int,int,int)",
    "int best(int,int,int)", "int bestIndex(int,int)", "int seek(int,int,int,int)",
    "int leaders(int,int,int,int)", "int found(int,int,int)", "int order(int,int,int,int)",
    "int behind(int,int,int)", "int implies(int,int)", "int alike(int,int)", "int same(int)",
    "int signs(int,int,int,int)", "int judge(int,int,int,int)", "int many(int,int)",
    "int whatIf(int,int,int,int)", "int days(int)", "int seed(int)", "int image()", "int back()",
    "int status(int)"
  };

  public static void main(String[] args) throws ReflectiveOperationException {
    Checks checks = new Checks("FaceTest");
    Class<?> face = SkippingKeys.class;
    checks.due("final", Modifier.isFinal(face.getModifiers()) ? 1 : 0, 1);
    checks.due("in no package", face.getPackageName().length(), 0);

    Set<String> wanted = new TreeSet<>(Arrays.asList(FACE));
    Set<String> open = new TreeSet<>();
    Set<String> hidden = new TreeSet<>();
    for (Method method : face.getDeclaredMethods()) {
      if (Modifier.isPrivate(method.getModifiers())) {
        hidden.add(method.getName());
      } else {
        open.add(told(method));
        checks.due(method + " is public and of the object",
            method.getModifiers(), Modifier.PUBLIC);
      }
    }
    checks.same("methods", open.toString(), wanted.toString());
    for (Method method : face.getDeclaredMethods()) {
      if (!Modifier.isPrivate(method.getModifiers())) {
        checks.due("no private method is named " + method.getName(),
            hidden.contains(method.getName()) ? 1 : 0, 0);
      }
    }
    for (Field field : face.getDeclaredFields()) {
      if (!Modifier.isPrivate(field.getModifiers())) {
        checks.same("field", field.toString(), "public static final int SkippingKeys.NONE");
      }
    }
    checks.due("NONE", face.getField("NONE").getInt(null), -1);
    Constructor<?>[] constructors = face.getDeclaredConstructors();
    checks.due("constructors", constructors.length, 1);
    checks.same("constructor", constructors[0].toString(), "public SkippingKeys()");
    checks.end();
  }

  private static String told(Method method) {
    StringBuilder text = new StringBuilder();
    text.append(method.getReturnType()).append(' ').append(method.getName()).append('(');
    for (Class<?> type : method.getParameterTypes()) {
      text.append(text.charAt(text.length() - 1) == '(' ? "" : ",").append(type);
    }
    return text.append(')').toString();
  }
}
