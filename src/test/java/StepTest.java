import java.util.List;

/**
 * Promises 34 and 35: an install that is cut off behind each number of steps ahead of its last one,
 * with all as it was, and one that is not; from the fewest steps to the most.
 */
public final class StepTest {
  private static final int NONE = Portsmith.NONE;
  private static final int MOST = 99;

  public static void main(String[] args) {
    noneYet();
    for (int there = 0; there <= 3; there++) {
      for (int coming = 0; coming <= 3; coming++) {
        for (int shared = 0; shared <= Math.min(there, coming); shared++) {
          eachLimit(there, coming, shared);
        }
      }
    }
    allPathsCome();
    allPathsGo();
    cutOffInEachState();
    stepsOfTheLastOne();
    Check.end();
  }

  private static void noneYet() {
    Portsmith x = new Portsmith();
    Check.is("no install", 0, x::steps);
    Check.noPlace("no platform 3", () -> x.install(3, 0));
    Check.noArgument("100 steps", () -> x.install(0, 100));
    Check.is("none that was not refused", 0, x::steps);
    Check.is("of no steps", NONE, () -> x.install(2, 0));
    Check.is("it took none", 0, x::steps);
    Check.is("none kept", 0, x::generations);
    Check.is("none is the machine's", NONE, x::generation);
    Check.is("one step is the last", 0, () -> x.install(2, 1));
    Check.is("it took one", 1, x::steps);
  }

  /** Locks these packages alone, each of which has one version. */
  private static void lock(Portsmith x, int... packs) {
    x.unwish();
    for (int pack : packs) {
      Check.wish(x, pack, "*", 0);
    }
    x.solve(0, NONE);
    Check.is("locked", packs.length, () -> x.lock(0));
  }

  /** The package 0 is installed with some files, and 1 comes, at some of the same paths. */
  private static Portsmith change(int there, int coming, int shared) {
    Portsmith x = new Portsmith();
    Check.version(x, 0, 1000);
    Check.version(x, 1, 1000);
    for (int i = 0; i < there; i++) {
      x.file(0, 0, 5 * i, i, i == 1);
    }
    for (int i = 0; i < coming; i++) {
      x.file(1, 0, i < shared ? 5 * i : 15 - i, 10 + i, i == 0);
    }
    lock(x, 0);
    x.install(0, MOST);
    if (there > 1) {
      x.edit(5, 500);
    }
    lock(x, 1);
    return x;
  }

  private static void eachLimit(int there, int coming, int shared) {
    int all = there - shared + coming + 1;
    String what = there + " there, " + coming + " come, " + shared + " to the same paths";
    List<String> before = withoutSteps(change(there, coming, shared));
    for (int limit = 0; limit <= MOST; limit = limit > all ? limit + 40 : limit + 1) {
      Portsmith x = change(there, coming, shared);
      int steps = limit;
      boolean isWhole = limit >= all;
      Check.is(what + ", behind " + limit, isWhole ? 1 : NONE, () -> x.install(0, steps));
      Check.is(what + ", steps", isWhole ? all : limit, x::steps);
      if (!isWhole) {
        Check.same(what + ", cut off behind " + limit, "",
            Probe.difference(before, withoutSteps(x)));
      }
    }
    Portsmith x = change(there, coming, shared);
    x.install(0, all);
    Check.is("the last step makes it the machine's", 1, x::generation);
    Check.is("it is 1 that is installed", 0, () -> x.installed(1));
    Check.is("and 0 is not", NONE, () -> x.installed(0));
    Check.is("two are kept", 2, x::generations);
  }

  // The number of steps is what a cut off install changes.
  private static List<String> withoutSteps(Portsmith x) {
    List<String> answers = Probe.of(x);
    answers.removeIf(answer -> answer.startsWith("steps"));
    return answers;
  }

  /** Six packages, of which the first five have three files, and the last one has one. */
  private static Portsmith full() {
    Portsmith x = new Portsmith();
    for (int pack = 0; pack < 6; pack++) {
      Check.version(x, pack, 1000);
      if (pack > 0) {
        Check.need(x, pack - 1, 0, pack, "*");
      }
    }
    for (int path = 0; path < 16; path++) {
      x.file(path / 3, 0, path, 100 + path, false);
    }
    Check.wish(x, 0, "*", 0);
    x.solve(0, NONE);
    x.lock(0);
    return x;
  }

  private static void allPathsCome() {
    Portsmith x = full();
    Check.is("cut off just ahead of the last step", NONE, () -> x.install(0, 16));
    Check.is("sixteen steps", 16, x::steps);
    for (int path = 0; path < 16; path++) {
      int of = path;
      Check.is("nothing there", NONE, () -> x.path(of, 0));
    }
    Check.is("the most steps", 0, () -> x.install(0, 17));
    Check.is("seventeen steps", 17, x::steps);
    for (int path = 0; path < 16; path++) {
      int of = path;
      Check.is("content", 100 + path, () -> x.path(of, 0));
      Check.is("owner", path / 3, () -> x.path(of, 1));
      Check.is("packed", 100 + path, () -> x.path(of, 2));
    }
    x.file(5, 0, 0, 1, false);
    Check.is("a seventeenth file has no path left", -2, () -> x.install(0, MOST));
    Check.is("steps of the one ahead", 17, x::steps);
  }

  private static void allPathsGo() {
    Portsmith x = full();
    x.install(0, MOST);
    Check.is("the empty lock, cut off just ahead of the last step", NONE, () -> x.install(1, 16));
    for (int path = 0; path < 16; path++) {
      int of = path;
      Check.is("still there", 100 + path, () -> x.path(of, 0));
    }
    Check.is("version of 5", 0, () -> x.installed(5));
    Check.is("the empty lock", 1, () -> x.install(1, 17));
    Check.is("each path, and the last one", 17, x::steps);
    for (int path = 0; path < 16; path++) {
      int of = path;
      Check.is("gone", NONE, () -> x.path(of, 0));
      Check.is("no owner", NONE, () -> x.path(of, 1));
      Check.is("nothing packed", NONE, () -> x.path(of, 2));
    }
    for (int pack = 0; pack < 6; pack++) {
      int of = pack;
      Check.is("not installed", NONE, () -> x.installed(of));
    }
    Check.is("all are otherwise", 16, () -> x.rollback(0));
    for (int pack = 0; pack < 6; pack++) {
      int of = pack;
      Check.is("installed again", 0, () -> x.installed(of));
    }
    Check.is("none is", 0, () -> x.rollback(0));
  }

  /** An object with much on it: of six generations one would go, and a content is put aside. */
  private static Portsmith busy() {
    Portsmith x = Furnished.make();
    for (int number = 3; number < 6; number++) {
      x.install(number % 2, MOST);
    }
    x.edit(1, 777);
    return x;
  }

  private static void cutOffInEachState() {
    Portsmith whole = busy();
    int aside = whole.aside();
    Check.is("the seventh", 6, () -> whole.install(0, MOST));
    int all = whole.steps();
    Check.is("one more is put aside", aside + 1, whole::aside);
    Check.noPlace("the least that does not run went", () -> whole.rollback(1));
    List<String> before = withoutSteps(busy());
    for (int limit = 0; limit < all; limit++) {
      Portsmith x = busy();
      int steps = limit;
      Check.is("cut off behind " + limit, NONE, () -> x.install(0, steps));
      Check.is("steps", limit, x::steps);
      Check.same("cut off behind " + limit + ": all as it was", "",
          Probe.difference(before, withoutSteps(x)));
    }
    Portsmith x = busy();
    Check.is("not cut off", 6, () -> x.install(0, all));
  }

  private static void stepsOfTheLastOne() {
    Portsmith x = full();
    x.install(0, MOST);
    Check.is("cut off", NONE, () -> x.install(0, 3));
    Check.is("three steps", 3, x::steps);
    x.divert(0, 15, 14);
    Check.is("refused", -2, () -> x.install(0, MOST));
    Check.is("still three", 3, x::steps);
    x.rollback(0);
    x.collect();
    Check.is("no install took others", 3, x::steps);
    x.divert(NONE, 15, 14);
    Check.is("cut off at once", NONE, () -> x.install(0, 0));
    Check.is("none", 0, x::steps);
  }
}
