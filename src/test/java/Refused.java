import java.util.ArrayList;
import java.util.Collections;
import java.util.HashMap;
import java.util.List;
import java.util.Map;

/**
 * One call of the face, the bounds of its arguments, and all the ways in which it is refused. Tests
 * that each bound is where it is told, that of two ways at once the exception is thrown that is
 * named first, and that a refused call leaves all as it was.
 */
final class Refused {
  interface Call {
    long of(Portsmith x, int[] arguments);
  }

  interface Stage {
    void set(Portsmith x);
  }

  static final String PLACE = "IndexOutOfBoundsException";
  static final String ARGUMENT = "IllegalArgumentException";
  static final String STATE = "IllegalStateException";
  // As the throws clauses name them.
  private static final List<String> ORDER = List.of(PLACE, ARGUMENT, STATE);

  /** A way to be refused: by some arguments, or by how the object is made ready for it. */
  private record Way(String what, String thrown, Map<Integer, Integer> changed, Stage stage) { }

  private static final Stage NO_STAGE = x -> { };
  private static final Map<Stage, List<String>> PROBES = new HashMap<>();

  private final String name;
  private final Call call;
  private final int[] usual;
  private Stage ready = NO_STAGE;
  private final List<Way> ways = new ArrayList<>();
  private final List<int[]> accepted = new ArrayList<>();

  /** A call, and arguments with which it is accepted on an object as Furnished makes it. */
  Refused(String name, Call call, int... usual) {
    this.name = name;
    this.call = call;
    this.usual = usual;
    accepted.add(usual);
  }

  /** What the object needs ahead of the call, so that it is accepted. */
  Refused ready(Stage stage) {
    ready = stage;
    return this;
  }

  /** An argument that names a thing, with its least and most. */
  Refused place(int argument, int least, int most) {
    return accept(argument, least, most).outside(argument, least, most, PLACE);
  }

  /** Another argument with its least and most. */
  Refused range(int argument, int least, int most) {
    return accept(argument, least, most).outside(argument, least, most, ARGUMENT);
  }

  Refused outside(int argument, int least, int most, String thrown) {
    return refuse(argument, thrown, least - 1, most + 1, Integer.MIN_VALUE, Integer.MAX_VALUE);
  }

  /** The package and its version, as the arguments from one on. */
  Refused packAndVersion(int first) {
    return place(first, 0, 5).place(first + 1, 0, 2)
        .accept(Map.of(first, 1, first + 1, 3))
        .refuse("a fifth version", PLACE, Map.of(first, 1, first + 1, 4))
        .refuse("a package without versions", PLACE, Map.of(first, 4, first + 1, 0));
  }

  Refused readsTape() {
    return refuse("the tape is empty", ARGUMENT, Portsmith::wipe)
        .refuse("the tape is too short", ARGUMENT, x -> Check.tape(x, "=1,"))
        .refuse("the tape has a character too many", ARGUMENT, x -> Check.tape(x, "=1.2.3*"));
  }

  Refused accept(int argument, int... values) {
    for (int value : values) {
      accept(Map.of(argument, value));
    }
    return this;
  }

  Refused accept(Map<Integer, Integer> changed) {
    accepted.add(with(changed, Map.of()));
    return this;
  }

  Refused refuse(int argument, String thrown, int... values) {
    for (int value : values) {
      refuse("", thrown, Map.of(argument, value));
    }
    return this;
  }

  Refused refuse(String what, String thrown, Map<Integer, Integer> changed) {
    ways.add(new Way(what, thrown, changed, NO_STAGE));
    return this;
  }

  Refused refuse(String what, String thrown, Stage stage) {
    ways.add(new Way(what, thrown, Map.of(), stage));
    return this;
  }

  void test() {
    for (int[] arguments : accepted) {
      Portsmith x = make(NO_STAGE, NO_STAGE);
      String answer = Check.told(() -> call.of(x, arguments));
      Check.same(name + told(arguments) + " is accepted", "", answer.replaceAll("-?\\d+", ""));
    }
    for (int i = 0; i < ways.size(); i++) {
      Way one = ways.get(i);
      test(one.what, with(one.changed, Map.of()), one.thrown, one.stage, NO_STAGE);
      for (Way other : ways.subList(i + 1, ways.size())) {
        testBoth(one, other);
      }
    }
  }

  private void testBoth(Way one, Way other) {
    boolean isApart = Collections.disjoint(one.changed.keySet(), other.changed.keySet());
    boolean isSameKind = one.stage != NO_STAGE && other.stage != NO_STAGE
        && one.thrown.equals(other.thrown);
    if (isApart && !isSameKind) {
      boolean isFirst = ORDER.indexOf(one.thrown) <= ORDER.indexOf(other.thrown);
      String thrown = isFirst ? one.thrown : other.thrown;
      int[] arguments = with(one.changed, other.changed);
      // What is named later is set first: it may have to use the tape.
      Stage first = isFirst ? other.stage : one.stage;
      Stage second = isFirst ? one.stage : other.stage;
      test(one.what + " " + other.what, arguments, thrown, first, second);
    }
  }

  private void test(String what, int[] arguments, String thrown, Stage first, Stage second) {
    String told = name + told(arguments) + " " + what;
    Portsmith x = make(first, second);
    Check.same(told, thrown, Check.told(() -> call.of(x, arguments)));
    Check.same(told + ": all stays", "", Probe.difference(untouched(first, second), Probe.of(x)));
  }

  private List<String> untouched(Stage first, Stage second) {
    if (first != NO_STAGE || second != NO_STAGE) {
      return Probe.of(make(first, second));
    }
    return PROBES.computeIfAbsent(ready, stage -> Probe.of(make(NO_STAGE, NO_STAGE)));
  }

  private Portsmith make(Stage first, Stage second) {
    Portsmith x = Furnished.make();
    ready.set(x);
    first.set(x);
    second.set(x);
    return x;
  }

  private int[] with(Map<Integer, Integer> one, Map<Integer, Integer> other) {
    int[] arguments = usual.clone();
    one.forEach((argument, value) -> arguments[argument] = value);
    other.forEach((argument, value) -> arguments[argument] = value);
    return arguments;
  }

  private static String told(int[] arguments) {
    StringBuilder text = new StringBuilder("(");
    for (int i = 0; i < arguments.length; i++) {
      text.append(i == 0 ? "" : ", ").append(arguments[i]);
    }
    return text.append(")").toString();
  }
}
