import java.util.Map;

/**
 * All promises: each argument just inside and just outside its bounds, and the least and the
 * greatest int; of two exceptions that fit the one that is named first; and that a call that throws
 * changes nothing. The calls are told with their arguments, and all ways in which they are refused.
 */
public final class RefusalTest {
  private static final int NONE = Portsmith.NONE;
  private static final String PLACE = Refused.PLACE;
  private static final String ARGUMENT = Refused.ARGUMENT;
  private static final String STATE = Refused.STATE;

  public static void main(String[] args) {
    typing();
    versions();
    needs();
    conflictsAndProvided();
    readingVersions();
    wishes();
    solutions();
    advisories();
    minutes();
    rolesAndIndexes();
    mirrors();
    files();
    installing();
    generations();
    answersThatRefuse();
    Check.end();
  }

  private static long bit(boolean is) {
    return is ? 1 : 0;
  }

  // Eight characters each: of the first one all are in range, of each other one or more are not.
  private static final long[] EIGHT = {0x7E21_7E21_7E21_7E21L, 0x7E21_7E21_7E21_7F21L,
      0x7E21_7E21_7E21_2021L, 0x7E21_7E21_7E21_0021L, 0x7E21_7E21_7E21_FF21L,
      0x7F21_7E21_7E21_7E21L, 0x2021_7E21_7E21_7E21L, Long.MIN_VALUE, Long.MAX_VALUE, 0, -1};

  private static void fill(Portsmith x, int characters) {
    x.wipe();
    for (int i = 0; i < characters; i += 8) {
      x.type(Check.packed("*|*|*|*|"), Math.min(8, characters - i));
    }
  }

  // Promise 2.
  private static void typing() {
    new Refused("type", (x, a) -> x.type(EIGHT[a[0]], a[1]), 0, 8)
        .range(1, 1, 8)
        .refuse(0, ARGUMENT, 1, 2, 3, 4, 5, 6, 7, 8, 9, 10)
        .refuse("onto 33", STATE, x -> fill(x, 33))
        .refuse("onto 40", STATE, x -> fill(x, 40))
        .test();
    // What stands behind the n lowest ones is not looked at.
    new Refused("seven of eight", (x, a) -> x.type(EIGHT[5], a[0]), 7)
        .accept(0, 1).refuse(0, ARGUMENT, 8)
        .refuse("onto 34", STATE, x -> fill(x, 34)).test();
    new Refused("one of two", (x, a) -> x.type(EIGHT[1], a[0]), 1)
        .refuse(0, ARGUMENT, 2)
        .refuse("onto 40", STATE, x -> fill(x, 40)).test();
    new Refused("onto 32", (x, a) -> x.type(EIGHT[0], a[0]), 8)
        .ready(x -> fill(x, 32)).accept(0, 1).test();
    new Refused("onto 39", (x, a) -> x.type(EIGHT[0], a[0]), 1)
        .ready(x -> fill(x, 39)).refuse(0, STATE, 2, 3, 4, 5, 6, 7, 8).test();
  }

  // Promises 5, 6 and 10.
  private static void versions() {
    new Refused("scheme", (x, a) -> x.scheme(a[0], a[1]), 2, 1)
        .place(0, 0, 5).range(1, 0, 2).test();
    new Refused("version", (x, a) -> x.version(a[0], a[1], a[2], a[3], a[4]), 2, 1000, 1, 1, 1)
        .place(0, 0, 5).range(1, 0, 99999).range(2, 0, 15).range(3, 0, 3).range(4, 0, 999)
        .refuse("it has 4", STATE, Map.of(0, 1)).test();
    new Refused("yank", (x, a) -> bit(x.yank(a[0], a[1], true)), 0, 1).packAndVersion(0).test();
    new Refused("not yank", (x, a) -> bit(x.yank(a[0], a[1], false)), 0, 1)
        .packAndVersion(0).test();
  }

  // Promise 7.
  private static void needs() {
    new Refused("need", (x, a) -> x.need(a[0], a[1], a[2], a[3], a[4], a[5]), 0, 2, 3, 0, 7, NONE)
        .packAndVersion(0)
        .outside(2, 0, 5, PLACE).accept(2, 1, 5).accept(Map.of(0, 5, 2, 0))
        .range(3, 0, 15).range(4, 1, 7)
        .accept(5, 1, 2, 4, 8)
        .refuse(5, ARGUMENT, Integer.MIN_VALUE, -2, 0, 3, 5, 6, 7, 9, 12, 16, Integer.MAX_VALUE)
        .refuse("its own package", ARGUMENT, Map.of(2, 0))
        .readsTape()
        .refuse("it has 4", STATE, Map.of(1, 1)).test();
  }

  // Promises 8 and 9.
  private static void conflictsAndProvided() {
    new Refused("conflict", (x, a) -> x.conflict(a[0], a[1], a[2]), 0, 2, 3)
        .packAndVersion(0)
        .outside(2, 0, 5, PLACE).accept(2, 1, 5).accept(Map.of(0, 5, 2, 0))
        .refuse("its own package", ARGUMENT, Map.of(2, 0))
        .readsTape()
        .refuse("it has 2", STATE, Map.of(1, 1)).test();
    new Refused("provide", (x, a) -> x.provide(a[0], a[1], a[2], a[3]), 0, 2, 3, 1000)
        .packAndVersion(0)
        .outside(2, 0, 5, PLACE).accept(2, 1, 5).accept(Map.of(0, 5, 2, 0))
        .refuse("its own package", ARGUMENT, Map.of(2, 0))
        .range(3, 0, 99999)
        .refuse("it has 2", STATE, Map.of(1, 1)).test();
  }

  // Promises 11 and 12.
  private static void readingVersions() {
    new Refused("compare", (x, a) -> x.compare(a[0], a[1], a[2]), 0, 1, 0)
        .packAndVersion(0).place(2, 0, 2)
        .accept(Map.of(0, 1, 2, 3)).refuse("a fifth version", PLACE, Map.of(0, 1, 2, 4)).test();
    new Refused("within", (x, a) -> x.within(a[0]), 0).place(0, 0, 5).readsTape().test();
  }

  // Promises 13 and 15.
  private static void wishes() {
    new Refused("wish", (x, a) -> x.wish(a[0], a[1]), 2, 0)
        .place(0, 0, 5).range(1, 0, 15).readsTape()
        .refuse("there are 4", STATE, RefusalTest::wishFour).test();
    new Refused("policy", (x, a) -> x.policy(a[0]), 7).range(0, 0, 15).test();
  }

  private static void wishFour(Portsmith x) {
    x.unwish();
    for (int count = 0; count < 4; count++) {
      Check.wish(x, 3, "*", 0);
    }
    Check.tape(x, "*");
  }

  // Promises 16 to 22.
  private static void solutions() {
    new Refused("solve", (x, a) -> x.solve(a[0], a[1]), 1, 0)
        .place(0, 0, 2).place(1, NONE, 5).test();
    new Refused("proposed", (x, a) -> x.proposed(a[0], a[1]), 1, 0)
        .place(0, 0, 2).place(1, 0, 5).test();
    new Refused("closures", (x, a) -> x.closures(a[0]), 1).place(0, 0, 2).test();
    new Refused("story", (x, a) -> x.story(a[0]), 1).place(0, 0, 2).test();
    new Refused("lock", (x, a) -> x.lock(a[0]), 1)
        .accept(0, 0).outside(0, 0, 2, PLACE)
        .refuse("nothing is proposed", STATE, Map.of(0, 2)).test();
    new Refused("lock, solved", (x, a) -> x.lock(a[0]), 2)
        .ready(x -> x.solve(2, NONE)).outside(0, 0, 2, PLACE).test();
    new Refused("locked", (x, a) -> x.locked(a[0], a[1]), 1, 0)
        .place(0, 0, 2).place(1, 0, 5).test();
    new Refused("holds", (x, a) -> bit(x.holds(a[0])), 1).place(0, 0, 2).test();
  }

  // Promises 23 and 24.
  private static void advisories() {
    new Refused("advise", (x, a) -> x.advise(a[0], a[1]), 2, 5)
        .place(0, 0, 5).range(1, 1, 9).readsTape()
        .refuse("there are 6", STATE, RefusalTest::adviseToSix).test();
    new Refused("advised", (x, a) -> x.advised(a[0], a[1]), 1, 5)
        .place(0, 0, 2).range(1, 1, 9).test();
  }

  private static void adviseToSix(Portsmith x) {
    for (int count = 3; count <= 6; count++) {
      Check.tape(x, "*");
      int due = count;
      Check.is("there is room", due, () -> x.advise(5, 1));
    }
    Check.tape(x, "*");
  }

  // Promise 25. The object is at the minute 500.
  private static void minutes() {
    new Refused("pass", (x, a) -> x.pass(a[0]), 1)
        .range(0, 0, 1000)
        .refuse("at the last minute", STATE, x -> passTo(x, 100000)).test();
    new Refused("pass to the last minute", (x, a) -> x.pass(a[0]), 3)
        .ready(x -> passTo(x, 99997))
        .accept(0, 0).refuse(0, STATE, 4, 1000).refuse(0, ARGUMENT, -1, 1001).test();
  }

  private static void passTo(Portsmith x, int minute) {
    for (int now = x.pass(0); now < minute;) {
      now = x.pass(Math.min(1000, minute - now));
    }
  }

  // Promises 26 and 27.
  private static void rolesAndIndexes() {
    new Refused("role", (x, a) -> bit(x.role(a[0], a[1], a[2])), 21, 1, 3)
        .range(0, 1, 31).range(1, 1, 3).range(2, 0, 31).test();
    for (int keys = 0; keys < 5; keys++) {
      // The keys 0 to some, as many as the greatest threshold that there can be.
      new Refused("role of " + keys, (x, a) -> bit(x.role(a[0], a[1], a[2])), (2 << keys) - 1, 1, 31)
          .range(1, 1, keys + 1).range(2, 0, 31).test();
    }
    new Refused("index", (x, a) -> x.index(a[0], a[1], a[2]), 41, 501, 7)
        .range(0, 0, 9999).range(1, 0, 200000).range(2, 0, 31).test();
  }

  // Promises 28 to 31.
  private static void mirrors() {
    new Refused("mirror", (x, a) -> x.mirror(a[0], a[1], a[2], a[3]), 1, 0, 1, 5)
        .place(0, 0, 2).packAndVersion(1).range(3, NONE, 999).test();
    new Refused("shut", (x, a) -> bit(x.shut(a[0], true)), 1).place(0, 0, 2).test();
    new Refused("open", (x, a) -> bit(x.shut(a[0], false)), 1).place(0, 0, 2).test();
    new Refused("fetch", (x, a) -> x.fetch(a[0], a[1]), 0, 1).packAndVersion(0).test();
    new Refused("lies", (x, a) -> x.lies(a[0]), 1).place(0, 0, 2).test();
  }

  // Promises 32 and 33. The version 2 of package 0 has files at 1 and 2, its version 1 has three.
  private static void files() {
    for (int is = 0; is < 2; is++) {
      boolean isConfiguration = is == 1;
      new Refused("file", (x, a) -> x.file(a[0], a[1], a[2], a[3], isConfiguration), 0, 2, 9, 5)
          .packAndVersion(0).range(2, 0, 15).range(3, 0, 999)
          .refuse("it has that path", ARGUMENT, Map.of(2, 1))
          .refuse("it has that path too", ARGUMENT, Map.of(2, 2))
          .refuse("it has 3", STATE, Map.of(1, 1)).test();
    }
    new Refused("divert", (x, a) -> x.divert(a[0], a[1], a[2]), 2, 7, 9)
        .place(0, NONE, 5).range(1, 0, 15).range(2, 0, 15)
        .refuse("to itself", ARGUMENT, Map.of(1, 9))
        .refuse("to itself", ARGUMENT, Map.of(1, 7, 2, 7)).test();
    for (int pack = NONE; pack < 6; pack++) {
      new Refused("divert the ends", (x, a) -> x.divert(a[0], a[1], a[2]), pack, 0, 15)
          .accept(Map.of(1, 15, 2, 0))
          .refuse("to itself", ARGUMENT, Map.of(1, 15))
          .refuse("to itself", ARGUMENT, Map.of(1, 0, 2, 0)).test();
    }
  }

  // Promises 34, 36, 37 and 38.
  private static void installing() {
    new Refused("install", (x, a) -> x.install(a[0], a[1]), 1, 99)
        .place(0, 0, 2).range(1, 0, 99).test();
    new Refused("edit", (x, a) -> x.edit(a[0], a[1]), 2, 5)
        .outside(0, 0, 15, ARGUMENT).range(1, 0, 999)
        .refuse("it has nothing", STATE, Map.of(0, 9)).test();
    new Refused("path", (x, a) -> x.path(a[0], a[1]), 1, 1).range(0, 0, 15).range(1, 0, 2).test();
    new Refused("installed", (x, a) -> x.installed(a[0]), 1).place(0, 0, 5).test();
  }

  // Promises 40 and 41. The generations 0 to 2 are kept; 0 runs, and 1 is the machine's.
  private static void generations() {
    new Refused("run", (x, a) -> bit(x.run(a[0], true)), 1).place(0, 0, 2).test();
    new Refused("not run", (x, a) -> bit(x.run(a[0], false)), 1).place(0, 0, 2).test();
    new Refused("rollback", (x, a) -> x.rollback(a[0]), 1).place(0, 0, 2).test();
    new Refused("run, collected", (x, a) -> bit(x.run(a[0], true)), 1)
        .ready(Portsmith::collect).accept(0, 0).refuse(0, PLACE, 2, 3).test();
    new Refused("rollback, collected", (x, a) -> x.rollback(a[0]), 1)
        .ready(Portsmith::collect).accept(0, 0).refuse(0, PLACE, 2, 3).test();
  }

  /** What is refused by an answer changes nothing as well. */
  private static void refuses(String what, int due, Refused.Stage ready, Refused.Call call) {
    Portsmith x = Furnished.make();
    Portsmith untouched = Furnished.make();
    ready.set(x);
    ready.set(untouched);
    Check.is(what, due, () -> call.of(x, new int[0]));
    Check.same(what + ": all stays", "", Probe.difference(Probe.of(untouched), Probe.of(x)));
  }

  // Promises 16, 26, 27 and 34. The role is two of the keys 0 to 2, and the last index was 40.
  private static void answersThatRefuse() {
    Refused.Stage nothing = x -> { };
    refuses("signed by one of the old", 0, nothing, (x, a) -> bit(x.role(31, 1, 25)));
    refuses("signed by none of the new", 0, nothing, (x, a) -> bit(x.role(16, 1, 7)));
    refuses("an index of one key", 1, nothing, (x, a) -> x.index(41, 5000, 1));
    refuses("an index below", 2, nothing, (x, a) -> x.index(39, 5000, 7));
    refuses("an index that ends now", 3, nothing, (x, a) -> x.index(41, 500, 7));
    refuses("two files of one path", -2, RefusalTest::makeMeet, (x, a) -> x.install(0, 99));
    refuses("two files, and no generation can go", -2, RefusalTest::makeMeetAndRun,
        (x, a) -> x.install(0, 99));
    refuses("no generation can go", -3, RefusalTest::runAll, (x, a) -> x.install(0, 99));
    refuses("nor if it is cut off", -3, RefusalTest::runAll, (x, a) -> x.install(0, 0));
    refuses("no solution where none was", NONE, x -> Check.wish(x, 4, "=9", 0),
        (x, a) -> x.solve(2, NONE));
  }

  // The package 0 has files at 1 and 2: those that come to 2 from 1 are of all others, and of 0.
  private static void makeMeet(Portsmith x) {
    x.divert(5, 1, 2);
  }

  private static void runAll(Portsmith x) {
    for (int number = 3; number < 6; number++) {
      int due = number;
      Check.is("kept", due, () -> x.install(0, 99));
    }
    for (int number = 0; number < 5; number++) {
      x.run(number, true);
    }
  }

  private static void makeMeetAndRun(Portsmith x) {
    runAll(x);
    makeMeet(x);
  }
}
