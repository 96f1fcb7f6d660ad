import java.io.IOException;
import java.lang.reflect.Constructor;
import java.lang.reflect.Field;
import java.lang.reflect.Method;
import java.lang.reflect.Modifier;
import java.nio.file.Files;
import java.nio.file.Path;
import java.util.ArrayList;
import java.util.HashSet;
import java.util.List;
import java.util.Set;
import java.util.regex.Matcher;
import java.util.regex.Pattern;

/** Promise 1, the face of the class, and what LANGUAGE.md says of its text. */
public final class FaceTest {
  // Behind each one what it throws: I, A, S for IndexOutOfBounds, IllegalArgument, IllegalState.
  private static final String[] METHODS = {
      "int type(long,int) AS", "int wipe()", "int fault()", "int scheme(int,int) IA",
      "int version(int,int,int,int,int) IAS", "int need(int,int,int,int,int,int) IAS",
      "int conflict(int,int,int) IAS", "int provide(int,int,int,int) IAS",
      "boolean yank(int,int,boolean) I", "int compare(int,int,int) I", "int within(int) IA",
      "int wish(int,int) IAS", "int unwish()", "int policy(int) A", "int solve(int,int) I",
      "int proposed(int,int) I", "int closures(int) I", "int story(int) I", "int lock(int) IS",
      "int locked(int,int) I", "boolean holds(int) I", "int advise(int,int) IAS",
      "int advised(int,int) IA", "int pass(int) AS", "boolean role(int,int,int) A",
      "int index(int,int,int) A", "int mirror(int,int,int,int) IA", "boolean shut(int,boolean) I",
      "int fetch(int,int) I", "int lies(int) I", "int file(int,int,int,int,boolean) IAS",
      "int divert(int,int,int) IA", "int install(int,int) IA", "int steps()",
      "int edit(int,int) AS", "int path(int,int) A", "int installed(int) I", "int aside()",
      "boolean run(int,boolean) I", "int rollback(int) I", "int collect()", "int generation()",
      "int generations()"};

  private static final String[] EXCEPTIONS = {"IllegalStateException", "IllegalArgumentException",
      "IndexOutOfBoundsException", "ArithmeticException", "UnsupportedOperationException",
      "NoSuchElementException", "RuntimeException"};

  public static void main(String[] args) throws IOException {
    constants();
    members();
    fields(Portsmith.class);
    for (Class<?> inside : Portsmith.class.getDeclaredClasses()) {
      fields(inside);
    }
    newObject();
    String source = Files.readString(Path.of(args[0]));
    text(source);
    Check.end();
  }

  private static void constants() {
    Check.is("NONE", -1, () -> Portsmith.NONE);
    Check.is("NUMBERS", 0, () -> Portsmith.NUMBERS);
    Check.is("EPOCHS", 1, () -> Portsmith.EPOCHS);
    Check.is("LAST", 2, () -> Portsmith.LAST);
  }

  private static void members() {
    Check.holds("public and final", true, () -> Modifier.isFinal(Portsmith.class.getModifiers())
        && Modifier.isPublic(Portsmith.class.getModifiers()));
    Set<String> wanted = new HashSet<>(List.of(METHODS));
    Set<String> names = new HashSet<>();
    for (String method : METHODS) {
      names.add(method.substring(method.indexOf(' ') + 1, method.indexOf('(')));
    }
    for (Method method : Portsmith.class.getDeclaredMethods()) {
      if (Modifier.isPrivate(method.getModifiers())) {
        Check.holds("private " + method.getName(), false, () -> names.contains(method.getName()));
      } else {
        Check.holds(shape(method), true, () -> wanted.remove(shape(method))
            && Modifier.isPublic(method.getModifiers())
            && !Modifier.isStatic(method.getModifiers()));
      }
    }
    Check.same("methods that are missing", "[]", wanted.toString());
    Set<String> fields = new HashSet<>();
    for (Field field : Portsmith.class.getDeclaredFields()) {
      if (!Modifier.isPrivate(field.getModifiers())) {
        fields.add(field.getName());
      }
    }
    Check.holds("fields", true, () -> fields.equals(Set.of("NONE", "NUMBERS", "EPOCHS", "LAST")));
    Constructor<?>[] constructors = Portsmith.class.getDeclaredConstructors();
    Check.holds("constructors", true, () -> constructors.length == 1
        && constructors[0].getParameterCount() == 0
        && Modifier.isPublic(constructors[0].getModifiers()));
    for (Class<?> inside : Portsmith.class.getDeclaredClasses()) {
      Check.holds("class " + inside, true, () -> Modifier.isStatic(inside.getModifiers())
          && !Modifier.isPublic(inside.getModifiers()));
      for (Method method : inside.getDeclaredMethods()) {
        Check.holds("inside " + method, false, () -> names.contains(method.getName()));
      }
    }
  }

  private static void fields(Class<?> of) {
    int count = 0;
    for (Field field : of.getDeclaredFields()) {
      if (Modifier.isStatic(field.getModifiers())) {
        Check.holds("final: " + field, true, () -> Modifier.isFinal(field.getModifiers()));
        Check.holds("a constant: " + field, true, () -> field.getType() == int.class);
      } else {
        count++;
      }
    }
    int fields = count;
    Check.holds("at most twenty fields: " + of, true, () -> fields <= 20);
  }

  private static String shape(Method method) {
    List<String> types = new ArrayList<>();
    for (Class<?> type : method.getParameterTypes()) {
      types.add(type.getName());
    }
    StringBuilder thrown = new StringBuilder();
    for (Class<?> type : method.getExceptionTypes()) {
      String name = type.getSimpleName();
      thrown.append(name.startsWith("Index") ? 'I' : name.startsWith("IllegalA") ? 'A' : 'S');
    }
    String shape = method.getReturnType() + " " + method.getName() + "("
        + String.join(",", types) + ") " + thrown;
    return shape.trim();
  }

  private static void newObject() {
    Portsmith x = new Portsmith();
    Check.is("an empty tape", 0, x::wipe);
    Check.is("no wishes", 0, x::unwish);
    Check.is("all licences", 15, () -> x.policy(15));
    Check.is("the minute 0", 0, () -> x.pass(0));
    Check.is("nothing on the machine", 0, () -> x.install(0, 99));
    Check.is("so only the last step", 1, x::steps);
    for (int pack = 0; pack < 6; pack++) {
      int of = pack;
      Check.noPlace("no versions", () -> x.compare(of, 0, 0));
      Check.is("the first one", 0, () -> x.version(of, 0, 0, 0, 0));
      Check.is("no files", 1, () -> x.file(of, 0, 0, 0, false));
    }
    Portsmith y = new Portsmith();
    Check.is("objects share nothing", 0, () -> y.version(0, 0, 0, 0, 0));
    Check.is("nor generations", Portsmith.NONE, y::generation);
  }

  private static void text(String source) {
    Check.holds("signs 10 and 32 to 126 alone", true, () -> source.matches("[\\n -~]*"));
    String bare = source.replaceAll("(?s)/\\*.*?\\*/", "").replaceAll("//[^\n]*", "");
    String code = bare.replaceAll("\"[^\"\n]*\"", "\"\"");
    String[] forbidden = {"->", "::", "\\bimport\\b", "\\bpackage\\b", "\\bprotected\\b",
        "\\bfinally\\b", "\\btry\\b", "\\bcatch\\b", "\\bsynchronized\\b", "\\bassert\\b",
        "\\bnative\\b", "\\bvolatile\\b", "\\bextends\\b", "\\bhashCode\\b", "\\btoString\\b",
        "\\bSystem\\.(?!arraycopy)", "Exact\\b", "\\bstatic\\s*\\{", "\\bThread\\b", "\\bvar\\b",
        "\"\\s*\\+", "\\+\\s*\"", "\\bMath\\.(?!min|max|abs|floorDiv|floorMod)"};
    for (String rule : forbidden) {
      Check.holds("the text has " + rule, false, () -> Pattern.compile(rule).matcher(code).find());
    }
    Matcher thrown = Pattern.compile("\\bthrow\\b(?! new (" + String.join("|", EXCEPTIONS)
        + ")\\((\"\")?\\);)").matcher(code);
    Check.holds("another throw", false, thrown::find);
    Check.holds("at most twelve classes", true,
        () -> Pattern.compile("\\bclass\\b").matcher(code).results().count() <= 12);
    lengths(code);
  }

  private static void lengths(String code) {
    Matcher method = Pattern.compile("(?m)^( +)[a-z][\\w<>\\[\\] ]* (\\w+)\\(([^;{}()]*)\\)[\\w,\\s]* \\{\n"
        + "(?s)(.*?)\n\\1\\}").matcher(code);
    int count = 0;
    while (method.find()) {
      count++;
      String name = method.group(2);
      int lines = method.group(4).split("\n").length;
      int parameters = method.group(3).split(",").length;
      Check.holds(name + " is short: " + lines, true, () -> lines <= 60);
      Check.holds(name + " takes at most seven", true, () -> parameters <= 7);
    }
    int methods = count;
    Check.holds("methods are found", true, () -> methods > 43);
  }
}
