import java.lang.reflect.Constructor;
import java.lang.reflect.Field;
import java.lang.reflect.Method;
import java.lang.reflect.Modifier;
import java.nio.file.Files;
import java.nio.file.Path;
import java.util.Arrays;
import java.util.HashSet;
import java.util.List;
import java.util.Set;
import java.util.TreeSet;
import java.util.regex.Matcher;
import java.util.regex.Pattern;
import java.util.stream.Collectors;

/** The face is the document's and no more, and the source keeps to the rules that can be looked up. */
public final class FaceTest {
  private static final String[] FACE = {
    "int basin(int,int)", "int of(int,int)", "int change(int,int,int)", "int join(int,int)", "int spring(int)",
    "int under(int,int)", "int steps(int)", "long share(int,int)", "long rest(int,int)", "int compare(int,int)",
    "int extreme(int)", "int needs(int)", "int even()", "int hours(int)", "int now(int)", "int ahead(int,int)",
    "int when(int,int)", "int loses(int,int)", "int edge(int,int)", "int place(int,int)", "int kindFor(int,int)",
    "int hurt(int,int)", "int deal(int)", "int law(int)", "int generous(int)", "int chips(int)",
    "int chipped(int,int)", "int truly(int,int,int)", "int weather(int)", "int wear(int)", "int seed(int)",
    "int feed(int,int)", "int wipe()", "int text()", "int hold(int,int)", "int as(int,int)",
    "int sheet(int,int,int)", "int write(int,int,int)", "int copy(int,int,int,int,int)", "int load(int)",
    "int judge(int,int)", "int image()", "int undo()", "int tear()", "int count(int)", "int status(int)"
  };

  private static final String[] UNWANTED = {
    "\\bimport\\b", "\\bpackage\\b", "->", "::", "\\bcatch\\b", "\\bfinally\\b", "\\bsynchronized\\b",
    "\\bassert\\b", "\\bstatic\\s*\\{", "Exact\\b", "\\bthrow\\b", "\\.equals\\(", "\\bwhile\\b", "\\bprotected\\b",
    "\\bdouble\\b", "\\bfloat\\b", "[^\\x00-\\x7f]"
  };

  private static int wrong = 0;

  private static void check(boolean right, String what) {
    if (right) return;
    wrong++;
    System.out.println(what);
  }

  private static String told(Method m) {
    String types = Arrays.stream(m.getParameterTypes()).map(Class::getSimpleName).collect(Collectors.joining(","));
    return m.getReturnType().getSimpleName() + " " + m.getName() + "(" + types + ")";
  }

  private static void checkMembers() {
    Class<?> c = ThirdFountain.class;
    check(Modifier.isPublic(c.getModifiers()) && Modifier.isFinal(c.getModifiers()), "the class is not public and final");
    Set<String> open = new TreeSet<>();
    Set<String> openNames = new HashSet<>();
    for (Method m : c.getDeclaredMethods()) {
      if (Modifier.isPrivate(m.getModifiers())) continue;
      check(Modifier.isPublic(m.getModifiers()) && !Modifier.isStatic(m.getModifiers()), told(m) + " is not as the face's");
      open.add(told(m));
      openNames.add(m.getName());
    }
    check(open.equals(new TreeSet<>(List.of(FACE))), "the face is " + open);
    checkNames(c, openNames, true);
    for (Class<?> inside : c.getDeclaredClasses()) {
      check(Modifier.isStatic(inside.getModifiers()), inside + " is not static");
      checkNames(inside, openNames, false);
    }
    check(c.getDeclaredClasses().length <= 12, "more than twelve classes");
    Constructor<?>[] made = c.getDeclaredConstructors();
    check(made.length == 1 && made[0].getParameterCount() == 0 && Modifier.isPublic(made[0].getModifiers()), "constructors");
  }

  private static void checkNames(Class<?> c, Set<String> openNames, boolean allPrivate) {
    int own = 0;
    for (Field f : c.getDeclaredFields()) {
      boolean fixed = Modifier.isStatic(f.getModifiers());
      check(!fixed || Modifier.isFinal(f.getModifiers()), f + " is static and not final");
      check(!allPrivate || Modifier.isPrivate(f.getModifiers()), f + " is not private");
      if (!fixed) own++;
    }
    check(own <= 20, c + " has more than twenty fields");
    for (Method m : c.getDeclaredMethods()) {
      check(m.getParameterCount() <= 7, m + " takes more than seven");
      boolean face = c == ThirdFountain.class && Modifier.isPublic(m.getModifiers());
      check(face || !openNames.contains(m.getName()), m + " bears a name of the face");
    }
  }

  /** The source as it compiles: without comments. */
  private static void checkSource(String source) {
    for (String unwanted : UNWANTED) {
      Matcher m = Pattern.compile(unwanted).matcher(source);
      check(!m.find(), "the source has " + unwanted);
    }
    Matcher method = Pattern.compile(
        "\\n(  |    )(?:public |private |static )*[A-Za-z]+(?:\\[\\])? ([a-z]\\w*)\\([^)]*\\) \\{(?s:.*?)\\n\\1\\}").matcher(source);
    int methods = 0;
    while (method.find()) {
      methods++;
      check(method.group().lines().count() <= 61, method.group(2) + " is long");
      check(!method.group().contains(" new "), method.group(2) + " makes an object");
    }
    check(methods > 100, "only " + methods + " methods were looked at");
  }

  public static void main(String[] args) throws Exception {
    checkMembers();
    Path path = Path.of("src/main/java/ThirdFountain.java");
    check(Files.exists(path), "run this from the project's own folder");
    if (Files.exists(path)) checkSource(Files.readString(path).replaceAll("(?s)/\\*.*?\\*/|//[^\\n]*", ""));
    System.out.println(wrong == 0 ? "the face is as due" : wrong + " faults in the face or the source");
    if (wrong != 0) System.exit(1);
  }
}
