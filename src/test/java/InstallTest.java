/** Promises 32 to 44: files, diversions, installing in steps, edits, generations. */
public final class InstallTest {
  private static final int NONE = Portsmith.NONE;

  public static void main(String[] args) {
    files();
    diversions();
    nothing();
    laysFiles();
    clearsPaths();
    edges();
    cutOff();
    twoOnOnePath();
    diverted();
    configurations();
    configurationsOfOthers();
    asideCutOff();
    edits();
    paths();
    generations();
    generationsGo();
    noneCanGo();
    rollbacks();
    collects();
    refusals();
    Check.end();
  }

  /** Locks just these versions on platform 0. */
  private static void lock(Portsmith x, int... packsAndVersions) {
    x.unwish();
    x.solve(0, NONE);
    x.lock(0);
    for (int i = 0; i < packsAndVersions.length; i += 2) {
      // The packages have one version for each major, 0 to 3.
      Check.wish(x, packsAndVersions[i], "=" + packsAndVersions[i + 1], 0);
    }
    x.solve(0, NONE);
    Check.is("locked", packsAndVersions.length / 2, () -> x.lock(0));
  }

  private static Portsmith withVersions(int packs) {
    Portsmith x = new Portsmith();
    for (int pack = 0; pack < packs; pack++) {
      for (int version = 0; version < 4; version++) {
        Check.version(x, pack, 1000 * version);
      }
    }
    return x;
  }

  private static void has(Portsmith x, int path, int content, int owner, int packed) {
    Check.is("content of " + path, content, () -> x.path(path, 0));
    Check.is("owner of " + path, owner, () -> x.path(path, 1));
    Check.is("packed at " + path, packed, () -> x.path(path, 2));
  }

  private static void hasNothing(Portsmith x, int path) {
    has(x, path, NONE, NONE, NONE);
  }

  private static void files() {
    Portsmith x = new Portsmith();
    Check.version(x, 0, 1000);
    Check.is("first", 1, () -> x.file(0, 0, 0, 0, false));
    Check.noPlace("package 6", () -> x.file(6, 0, 1, 0, false));
    Check.noPlace("package -1", () -> x.file(-1, 0, 1, 0, false));
    Check.noPlace("version 1", () -> x.file(0, 1, 16, 0, false));
    Check.noPlace("version -1", () -> x.file(0, -1, 1, 0, false));
    Check.noArgument("path 16", () -> x.file(0, 0, 16, 0, false));
    Check.noArgument("path -1", () -> x.file(0, 0, -1, 0, false));
    Check.noArgument("content 1000", () -> x.file(0, 0, 1, 1000, false));
    Check.noArgument("content -1", () -> x.file(0, 0, 1, -1, false));
    Check.noArgument("the path again", () -> x.file(0, 0, 0, 1, true));
    Check.is("second", 2, () -> x.file(0, 0, 15, 999, true));
    Check.is("third", 3, () -> x.file(0, 0, 7, 1, true));
    Check.noState("fourth", () -> x.file(0, 0, 8, 1, true));
    Check.noArgument("fourth, the path again", () -> x.file(0, 0, 15, 1, true));
    Check.version(x, 0, 1000);
    Check.is("another version may have it", 1, () -> x.file(0, 1, 15, 1, true));
  }

  private static void diversions() {
    Portsmith x = new Portsmith();
    Check.is("none to take away", 0, () -> x.divert(NONE, 0, 1));
    Check.is("one", 1, () -> x.divert(0, 0, 1));
    Check.is("for another instead", 1, () -> x.divert(5, 0, 2));
    Check.is("two", 2, () -> x.divert(5, 15, 0));
    Check.is("to the last path", 2, () -> x.divert(5, 15, 14));
    Check.is("from the first to the last", 2, () -> x.divert(5, 0, 15));
    Check.noPlace("package 6", () -> x.divert(6, 1, 1));
    Check.noPlace("package -2", () -> x.divert(-2, 1, 2));
    Check.noArgument("path 16", () -> x.divert(0, 16, 1));
    Check.noArgument("path -1", () -> x.divert(0, -1, 1));
    Check.noArgument("to 16", () -> x.divert(0, 1, 16));
    Check.noArgument("to -1", () -> x.divert(0, 1, -1));
    Check.noArgument("to itself", () -> x.divert(0, 1, 1));
    Check.noArgument("to itself, taken away", () -> x.divert(NONE, 0, 0));
    Check.noArgument("to 16, taken away", () -> x.divert(NONE, 0, 16));
    Check.is("one taken away", 1, () -> x.divert(NONE, 0, 9));
    Check.is("and the other", 0, () -> x.divert(NONE, 15, 9));
  }

  private static void nothing() {
    Portsmith x = new Portsmith();
    Check.is("no steps", 0, x::steps);
    Check.is("nothing aside", 0, x::aside);
    Check.is("no generation", NONE, x::generation);
    Check.is("none kept", 0, x::generations);
    Check.is("none to collect", 0, x::collect);
    for (int path = 0; path < 16; path++) {
      hasNothing(x, path);
    }
    for (int pack = 0; pack < 6; pack++) {
      int of = pack;
      Check.is("not installed", NONE, () -> x.installed(of));
    }
    Check.is("a lock of nothing is cut off", NONE, () -> x.install(0, 0));
    Check.is("behind no step", 0, x::steps);
    Check.is("a lock of nothing", 0, () -> x.install(0, 1));
    Check.is("the last step alone", 1, x::steps);
    Check.is("the machine's", 0, x::generation);
    Check.is("one kept", 1, x::generations);
  }

  private static void laysFiles() {
    Portsmith x = withVersions(2);
    x.file(0, 1, 4, 40, false);
    x.file(0, 1, 2, 20, true);
    x.file(1, 2, 0, 999, false);
    x.file(1, 3, 1, 1, false);
    lock(x, 0, 1, 1, 2);
    Check.is("three files and the last step", 0, () -> x.install(0, 4));
    Check.is("four steps", 4, x::steps);
    has(x, 4, 40, 0, 40);
    has(x, 2, 20, 0, 20);
    has(x, 0, 999, 1, 999);
    hasNothing(x, 1);
    Check.is("version of 0", 1, () -> x.installed(0));
    Check.is("version of 1", 2, () -> x.installed(1));
    Check.is("none of 2", NONE, () -> x.installed(2));
    Check.is("the lock of another platform is empty", 1, () -> x.install(1, 99));
    Check.is("three go", 4, x::steps);
    hasNothing(x, 4);
    Check.is("none of 0", NONE, () -> x.installed(0));
  }

  private static void clearsPaths() {
    Portsmith x = withVersions(2);
    x.file(0, 1, 4, 40, false);
    x.file(0, 1, 2, 20, false);
    x.file(1, 1, 4, 44, false);
    lock(x, 0, 1);
    x.install(0, 99);
    lock(x, 1, 1);
    Check.is("another package comes to the path", 1, () -> x.install(0, 99));
    Check.is("one goes, one comes, the last", 3, x::steps);
    has(x, 4, 44, 1, 44);
    hasNothing(x, 2);
  }

  private static void edges() {
    Portsmith x = withVersions(2);
    x.file(0, 1, 0, 1, false);
    x.file(0, 1, 15, 2, true);
    x.file(1, 1, 0, 3, false);
    lock(x, 0, 1);
    x.install(0, 99);
    Check.is("the first path", 1, () -> x.edit(0, 10));
    Check.is("the last path", 2, () -> x.edit(15, 20));
    has(x, 0, 10, 0, 1);
    has(x, 15, 20, 0, 2);
    Check.is("both are rolled back", 2, () -> x.rollback(0));
    has(x, 0, 1, 0, 1);
    has(x, 15, 2, 0, 2);
    lock(x, 0, 1, 1, 1);
    Check.is("two on the first path", -2, () -> x.install(0, 99));
    x.divert(1, 0, 14);
    Check.is("diverted", 1, () -> x.install(0, 99));
    has(x, 0, 3, 1, 3);
    has(x, 14, 1, 0, 1);
    lock(x);
    Check.is("all go", 2, () -> x.install(0, 99));
    Check.is("a step each, and the last", 4, x::steps);
    hasNothing(x, 0);
    hasNothing(x, 15);
  }

  private static void cutOff() {
    Portsmith x = withVersions(2);
    x.file(0, 1, 4, 40, false);
    x.file(0, 1, 2, 20, false);
    x.file(1, 1, 5, 50, false);
    lock(x, 0, 1);
    x.install(0, 99);
    lock(x, 1, 1);
    for (int steps = 0; steps < 4; steps++) {
      int limit = steps;
      Check.is("cut off behind " + steps, NONE, () -> x.install(0, limit));
      Check.is("so many steps", steps, x::steps);
      has(x, 4, 40, 0, 40);
      has(x, 2, 20, 0, 20);
      hasNothing(x, 5);
      Check.is("version of 0", 1, () -> x.installed(0));
      Check.is("none of 1", NONE, () -> x.installed(1));
      Check.is("the machine's", 0, x::generation);
      Check.is("one kept", 1, x::generations);
    }
    Check.is("behind the last one", 1, () -> x.install(0, 4));
    Check.is("four steps", 4, x::steps);
    has(x, 5, 50, 1, 50);
  }

  private static void twoOnOnePath() {
    Portsmith x = withVersions(2);
    x.file(0, 1, 4, 40, false);
    x.file(1, 1, 4, 40, false);
    x.file(1, 2, 5, 50, false);
    x.file(1, 2, 6, 60, false);
    lock(x, 1, 2);
    x.install(0, 99);
    lock(x, 0, 1, 1, 1);
    Check.is("two packages", -2, () -> x.install(0, 0));
    Check.is("steps of the one that was not refused", 3, x::steps);
    Check.is("it changes nothing", 2, () -> x.installed(1));
    x.divert(0, 4, 3);
    Check.is("4 is kept for 0", 1, () -> x.install(0, 99));
    has(x, 3, 40, 1, 40);
    has(x, 4, 40, 0, 40);
    x.divert(0, 5, 6);
    lock(x, 1, 2);
    Check.is("two files of one package, by a diversion", -2, () -> x.install(0, 99));
    x.divert(1, 5, 6);
    Check.is("its own diversion", 2, () -> x.install(0, 99));
  }

  private static void diverted() {
    Portsmith x = withVersions(2);
    x.file(0, 1, 1, 10, false);
    x.file(1, 1, 1, 11, true);
    x.divert(0, 1, 2);
    x.divert(0, 2, 3);
    lock(x, 0, 1, 1, 1);
    Check.is("installed", 0, () -> x.install(0, 99));
    has(x, 1, 10, 0, 10);
    has(x, 2, 11, 1, 11);
    hasNothing(x, 3);
    x.edit(2, 500);
    x.divert(NONE, 1, 2);
    Check.is("now both come to 1", -2, () -> x.install(0, 99));
    x.divert(1, 1, 4);
    Check.is("turned", 1, () -> x.install(0, 99));
    Check.is("2 goes, two come", 4, x::steps);
    has(x, 1, 11, 1, 11);
    has(x, 4, 10, 0, 10);
    hasNothing(x, 2);
    Check.is("a new path of the configuration: nothing aside", 0, x::aside);
  }

  private static void configurations() {
    Portsmith x = withVersions(1);
    x.file(0, 0, 3, 7, true);
    x.file(0, 1, 3, 9, true);
    x.file(0, 2, 3, 9, false);
    lock(x, 0, 0);
    x.install(0, 99);
    lock(x, 0, 1);
    x.install(0, 99);
    has(x, 3, 9, 0, 9);
    x.edit(3, 55);
    x.install(0, 99);
    has(x, 3, 55, 0, 9);
    Check.is("the packed one is not new", 0, x::aside);
    lock(x, 0, 0);
    x.install(0, 99);
    has(x, 3, 55, 0, 7);
    Check.is("a new one is put aside", 1, x::aside);
    lock(x, 0, 1);
    x.install(0, 99);
    has(x, 3, 55, 0, 9);
    Check.is("and another", 2, x::aside);
    x.edit(3, 9);
    lock(x, 0, 0);
    x.install(0, 99);
    has(x, 3, 7, 0, 7);
    Check.is("as packed again: it is renewed", 2, x::aside);
    x.edit(3, 9);
    lock(x, 0, 1);
    x.install(0, 99);
    has(x, 3, 9, 0, 9);
    Check.is("edited to what comes: it stays, and that is put aside", 3, x::aside);
    x.edit(3, 1);
    lock(x, 0, 2);
    x.install(0, 99);
    has(x, 3, 9, 0, 9);
    Check.is("no configuration: it is laid over", 3, x::aside);
    x.edit(3, 2);
    lock(x, 0, 0);
    x.install(0, 99);
    has(x, 3, 2, 0, 7);
    Check.is("a configuration that comes over what was none", 4, x::aside);
  }

  private static void configurationsOfOthers() {
    Portsmith x = withVersions(2);
    x.file(0, 1, 3, 7, true);
    x.file(1, 1, 3, 8, true);
    lock(x, 0, 1);
    x.install(0, 99);
    x.edit(3, 55);
    lock(x, 1, 1);
    x.install(0, 99);
    has(x, 3, 8, 1, 8);
    Check.is("what another edited does not stay", 0, x::aside);
    x.edit(3, 66);
    lock(x);
    x.install(0, 99);
    hasNothing(x, 3);
    lock(x, 1, 1);
    x.install(0, 99);
    has(x, 3, 8, 1, 8);
    Check.is("what went is gone", 0, x::aside);
  }

  private static void asideCutOff() {
    Portsmith x = withVersions(1);
    x.file(0, 0, 3, 7, true);
    x.file(0, 1, 3, 9, true);
    lock(x, 0, 0);
    x.install(0, 99);
    x.edit(3, 55);
    lock(x, 0, 1);
    Check.is("cut off behind the file", NONE, () -> x.install(0, 1));
    Check.is("nothing aside", 0, x::aside);
    has(x, 3, 55, 0, 7);
    x.install(0, 2);
    Check.is("aside", 1, x::aside);
    x.rollback(0);
    Check.is("what was put aside stays so", 1, x::aside);
  }

  private static void edits() {
    Portsmith x = withVersions(1);
    x.file(0, 0, 3, 7, true);
    lock(x, 0, 0);
    Check.noState("nothing there", () -> x.edit(3, 1));
    Check.noArgument("nothing there, out of range", () -> x.edit(3, 1000));
    x.install(0, 99);
    Check.is("had 7", 7, () -> x.edit(3, 0));
    Check.is("had 0", 0, () -> x.edit(3, 999));
    has(x, 3, 999, 0, 7);
    Check.noArgument("content -1", () -> x.edit(3, -1));
    Check.noArgument("content 1000", () -> x.edit(3, 1000));
    Check.noArgument("path -1", () -> x.edit(-1, 1));
    Check.noArgument("path 16", () -> x.edit(16, 1));
    has(x, 3, 999, 0, 7);
  }

  private static void paths() {
    Portsmith x = new Portsmith();
    Check.noArgument("path -1", () -> x.path(-1, 0));
    Check.noArgument("path 16", () -> x.path(16, 0));
    Check.noArgument("what -1", () -> x.path(0, -1));
    Check.noArgument("what 3", () -> x.path(0, 3));
    Check.noPlace("package 6", () -> x.installed(6));
    Check.noPlace("package -1", () -> x.installed(-1));
  }

  private static void generations() {
    Portsmith x = withVersions(1);
    Check.noPlace("none is kept to run", () -> x.run(0, true) ? 1 : 0);
    Check.noPlace("none is kept to roll back to", () -> x.rollback(0));
    x.install(0, 99);
    x.install(0, 99);
    Check.is("the latest", 1, x::generation);
    Check.is("two", 2, x::generations);
    Check.holds("it did not run", false, () -> x.run(0, true));
    Check.holds("it did", true, () -> x.run(0, true));
    Check.holds("it did still", true, () -> x.run(0, false));
    Check.holds("it did not", false, () -> x.run(0, false));
    Check.holds("the machine's is not said to run", false, () -> x.run(1, false));
    Check.noPlace("2 is not kept", () -> x.run(2, true) ? 1 : 0);
    Check.noPlace("-1 is not kept", () -> x.run(-1, true) ? 1 : 0);
    Check.noPlace("nor can be rolled back to", () -> x.rollback(2));
    Check.noPlace("nor -1", () -> x.rollback(-1));
  }

  private static void generationsGo() {
    Portsmith x = withVersions(1);
    for (int number = 0; number < 6; number++) {
      int want = number;
      Check.is("kept", want, () -> x.install(0, 99));
    }
    x.run(0, true);
    x.rollback(1);
    Check.is("cut off", NONE, () -> x.install(0, 0));
    Check.holds("nothing went", false, () -> x.run(2, false));
    Check.is("the seventh", 6, () -> x.install(0, 99));
    Check.is("six are kept", 6, x::generations);
    Check.is("the latest is the machine's", 6, x::generation);
    // 0 runs, and 1 was the machine's when the least one went.
    Check.noPlace("2 went", () -> x.run(2, false) ? 1 : 0);
    Check.holds("1 is kept", false, () -> x.run(1, false));
    Check.is("the eighth", 7, () -> x.install(0, 99));
    Check.noPlace("1 went", () -> x.run(1, false) ? 1 : 0);
    Check.holds("0 runs", true, () -> x.run(0, false));
    Check.is("the ninth", 8, () -> x.install(0, 99));
    Check.noPlace("0 went", () -> x.rollback(0));
    Check.holds("a new one does not run", false, () -> x.run(8, true));
  }

  private static void noneCanGo() {
    Portsmith x = withVersions(2);
    x.file(0, 1, 4, 40, false);
    x.file(1, 1, 4, 40, false);
    for (int number = 0; number < 6; number++) {
      x.install(0, 99);
    }
    for (int number = 0; number < 5; number++) {
      x.run(number, true);
    }
    Check.is("all run, or are the machine's", -3, () -> x.install(0, 99));
    Check.is("ahead of being cut off", -3, () -> x.install(0, 0));
    Check.is("steps as before", 1, x::steps);
    lock(x, 0, 1, 1, 1);
    Check.is("behind the refusal for paths", -2, () -> x.install(0, 99));
    x.run(5, true);
    x.run(3, false);
    x.rollback(3);
    lock(x);
    Check.is("the machine's cannot go", -3, () -> x.install(0, 99));
    x.run(5, false);
    Check.is("5 can", 6, () -> x.install(0, 99));
    Check.noPlace("5 went", () -> x.run(5, false) ? 1 : 0);
    Check.is("3 can", 7, () -> x.install(0, 99));
    Check.is("six", 6, x::generations);
  }

  private static void rollbacks() {
    Portsmith x = withVersions(2);
    x.file(0, 0, 3, 7, true);
    x.file(0, 0, 4, 8, false);
    x.file(0, 0, 5, 5, false);
    x.file(0, 1, 3, 9, true);
    x.file(1, 0, 5, 5, false);
    lock(x, 0, 0);
    x.install(0, 99);
    x.edit(3, 55);
    lock(x, 0, 1, 1, 0);
    x.install(0, 99);
    // 3 has another content and was packed anew, 4 went, 5 has another owner.
    Check.is("three paths", 3, () -> x.rollback(0));
    has(x, 3, 7, 0, 7);
    has(x, 4, 8, 0, 8);
    has(x, 5, 5, 0, 5);
    Check.is("version of 0", 0, () -> x.installed(0));
    Check.is("none of 1", NONE, () -> x.installed(1));
    Check.is("the machine's", 0, x::generation);
    Check.is("both are kept", 2, x::generations);
    Check.is("no path", 0, () -> x.rollback(0));
    x.edit(4, 80);
    Check.is("an edit is undone", 1, () -> x.rollback(0));
    Check.is("forward", 3, () -> x.rollback(1));
    has(x, 3, 55, 0, 9);
    hasNothing(x, 4);
    has(x, 5, 5, 1, 5);
    Check.is("version of 1", 0, () -> x.installed(1));
    x.edit(3, 9);
    x.install(0, 99);
    Check.is("edits are in what is kept next", 1, () -> x.rollback(1));
    x.rollback(2);
    has(x, 3, 9, 0, 9);
    Check.is("steps stay", 3, x::steps);
    Check.is("the lock stays", 1, () -> x.locked(0, 0));
    // Only what was packed differs.
    x.rollback(1);
    x.edit(3, 7);
    lock(x, 0, 0);
    x.install(0, 99);
    has(x, 3, 7, 0, 7);
  }

  private static void collects() {
    Portsmith x = withVersions(1);
    x.file(0, 1, 4, 40, false);
    for (int number = 0; number < 5; number++) {
      x.install(0, 99);
    }
    x.run(1, true);
    x.run(3, true);
    x.rollback(2);
    Check.is("0 and 4", 2, x::collect);
    Check.is("three are kept", 3, x::generations);
    Check.is("2 is the machine's", 2, x::generation);
    Check.noPlace("0 is dropped", () -> x.run(0, true) ? 1 : 0);
    Check.noPlace("4 is dropped", () -> x.rollback(4));
    Check.holds("1 runs", true, () -> x.run(1, false));
    Check.holds("3 runs", true, () -> x.run(3, true));
    Check.is("1", 1, x::collect);
    Check.is("no more", 0, x::collect);
    lock(x, 0, 1);
    Check.is("a number is not used again", 5, () -> x.install(0, 99));
    Check.is("2 goes", 1, x::collect);
    Check.is("a path is there no more", 1, () -> x.rollback(3));
    hasNothing(x, 4);
    Check.is("5 does not run", 1, x::collect);
    Check.is("3 alone", 1, x::generations);
  }

  private static void refusals() {
    Portsmith x = withVersions(1);
    x.install(0, 99);
    Check.noPlace("platform 3", () -> x.install(3, 100));
    Check.noPlace("platform -1", () -> x.install(-1, 0));
    Check.noArgument("steps -1", () -> x.install(0, -1));
    Check.noArgument("steps 100", () -> x.install(0, 100));
    Check.is("what throws installs nothing", 1, x::generations);
    Check.is("and takes no steps", 1, x::steps);
  }
}
