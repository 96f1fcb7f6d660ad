import java.util.ArrayList;
import java.util.List;
import java.util.function.ToLongFunction;

/**
 * All promises: what a call that is accepted changes, of all that Probe asks for; the rest stays as
 * on an object without that call. What Furnished makes is the object of all of them.
 */
public final class ReachTest {
  private static final int NONE = Portsmith.NONE;
  private static final List<String> UNTOUCHED = Probe.of(Furnished.make());

  private static final String[] TAPE_IS_EMPTY = {"fault: 0", "within 0: IllegalArgumentException",
      "within 5: IllegalArgumentException", "the tape: 0"};

  public static void main(String[] args) {
    asking();
    sayingTheSameAgain();
    tape();
    schemesAndVersions();
    needsConflictsAndProvided();
    yanking();
    wishesAndPolicy();
    solving();
    locking();
    advising();
    minutesRolesAndIndexes();
    mirrorsAndStore();
    filesAndDiversions();
    installing();
    installingAnotherLock();
    editing();
    running();
    rollingBack();
    collecting();
    Check.end();
  }

  private static long bit(boolean is) {
    return is ? 1 : 0;
  }

  /** Tells what is answered otherwise behind a call, as Probe tells it, in that order. */
  private static void changes(String what, long answer, ToLongFunction<Portsmith> call,
      String... due) {
    Portsmith x = Furnished.make();
    Check.is(what, answer, () -> call.applyAsLong(x));
    List<String> answers = Probe.of(x);
    List<String> otherwise = new ArrayList<>();
    for (int i = 0; i < answers.size(); i++) {
      if (!answers.get(i).equals(UNTOUCHED.get(i))) {
        otherwise.add(answers.get(i));
      }
    }
    Check.same(what + ": as many answers", "" + UNTOUCHED.size(), "" + answers.size());
    Check.same(what + ": answers otherwise", String.join("; ", due), String.join("; ", otherwise));
  }

  private static void stays(String what, long answer, ToLongFunction<Portsmith> call) {
    changes(what, answer, call);
  }

  private static String[] with(String[] first, String... second) {
    List<String> both = new ArrayList<>(List.of(first));
    both.addAll(List.of(second));
    return both.toArray(new String[0]);
  }

  // Promises 4, 11, 12, 17 to 19, 21, 22, 24, 31, 35, 37 to 39, 43 and 44: what only asks.
  private static void asking() {
    stays("fault", NONE, Portsmith::fault);
    stays("compare", -1, x -> x.compare(0, 1, 2));
    stays("compare by EPOCHS", 1, x -> x.compare(1, 1, 2));
    stays("within", 3, x -> x.within(0));
    for (int platform = 0; platform < 3; platform++) {
      int on = platform;
      stays("proposed", platform == 2 ? NONE : 2, x -> x.proposed(on, 0));
      stays("closures", 1, x -> x.closures(on));
      stays("story", NONE, x -> x.story(on));
      stays("locked", new int[] {1, 2, NONE}[platform], x -> x.locked(on, 0));
      stays("holds", platform == 1 ? 1 : 0, x -> bit(x.holds(on)));
      stays("advised", platform == 2 ? 0 : 9, x -> x.advised(on, 4));
    }
    stays("lies", 1, x -> x.lies(0));
    stays("steps", 2, Portsmith::steps);
    stays("path", 903, x -> x.path(14, 0));
    stays("owner", 3, x -> x.path(14, 1));
    stays("packed", 300, x -> x.path(14, 2));
    stays("installed", 2, x -> x.installed(0));
    stays("aside", 2, Portsmith::aside);
    stays("generation", 1, Portsmith::generation);
    stays("generations", 3, Portsmith::generations);
  }

  /** What is as it was already changes nothing. */
  private static void sayingTheSameAgain() {
    stays("scheme", Portsmith.EPOCHS, x -> x.scheme(1, Portsmith.EPOCHS));
    stays("yanked", 1, x -> bit(x.yank(1, 3, true)));
    stays("not yanked", 0, x -> bit(x.yank(1, 2, false)));
    stays("policy", 7, x -> x.policy(7));
    stays("the proposed one solved again", 3, x -> x.solve(0, NONE));
    stays("what is locked already", 3, x -> x.lock(1));
    stays("no minute", 500, x -> x.pass(0));
    stays("the same role", 1, x -> bit(x.role(7, 2, 5)));
    stays("the last index again", 0, x -> x.index(40, 501, 3));
    stays("told again", 999, x -> x.mirror(0, 0, 1, 999));
    stays("its content", 10, x -> x.mirror(2, 0, 0, NONE));
    stays("shut already", 1, x -> bit(x.shut(1, true)));
    stays("open already", 0, x -> bit(x.shut(0, false)));
    stays("in the store already", 3, x -> x.fetch(0, 1));
    stays("diverted already", 2, x -> x.divert(5, 13, 3));
    stays("not diverted", 2, x -> x.divert(NONE, 0, 1));
    stays("edited to what it has", 903, x -> x.edit(14, 903));
    stays("runs already", 1, x -> bit(x.run(0, true)));
    stays("runs not", 0, x -> bit(x.run(1, false)));
  }

  // Promises 2 and 3.
  private static void tape() {
    changes("wipe", 8, Portsmith::wipe, TAPE_IS_EMPTY);
    changes("type", 9, x -> x.type('*', 1), "fault: 8", "within 0: IllegalArgumentException",
        "within 5: IllegalArgumentException", "the tape: 9");
    // ">=1,<3-2|*": the version 2 of 0 is 3.0.0, and the others of 5 are previews.
    changes("type more", 10, x -> x.type('|' | '*' << 8, 2), "within 0: 7", "the tape: 10");
  }

  // Promises 5 and 6.
  private static void schemesAndVersions() {
    changes("scheme", Portsmith.NUMBERS, x -> x.scheme(0, Portsmith.EPOCHS), "scheme 0: 1");
    // The versions of 1 are 11.0.0 down to 8.0.0 by their epochs: 1:1, 1:0, 9, 8.
    changes("scheme of 1", Portsmith.EPOCHS, x -> x.scheme(1, Portsmith.LAST), "scheme 1: 2");
    changes("version", 0, x -> x.version(4, 1000, 0, 0, 0),
        "within 4: 1", "yanked 4, 0: 0", "next of 4: 1");
    changes("version that is greater", 3, x -> x.version(0, 3000, 15, 0, 5),
        "closures 0: 2", "closures 1: 2", "closures 2: 2", "closures for all licences: 2",
        "within 0: 15", "yanked 0, 3: 0", "next of 0: IllegalStateException");
  }

  // Promises 7 to 9.
  private static void needsConflictsAndProvided() {
    // 5 is wished in any release: that is its version 0.
    changes("need", 2, x -> x.need(0, 2, 5, 0, 7, NONE), with(TAPE_IS_EMPTY, "needs 2: 3"));
    // Of 4 there is none, and what the version 2 of 0 itself provides is not in the range.
    changes("need on platform 1", 2, x -> x.need(0, 2, 4, 0, 2, NONE), with(TAPE_IS_EMPTY,
        "holds 1: 0", "closures 1: 0", "story 1: 1", "needs 2: 3"));
    changes("conflict", 2, x -> x.conflict(0, 2, 3), with(TAPE_IS_EMPTY,
        "closures 0: 0", "story 0: 1", "holds 1: 0", "closures 1: 0", "story 1: 1",
        "closures 2: 0", "story 2: 1", "closures for all licences: 0",
        "conflicts 2: IllegalStateException"));
    changes("provide", 2, x -> x.provide(0, 2, 1, 2000), "provides 2: IllegalStateException");
  }

  // Promise 10.
  private static void yanking() {
    // It is proposed on 0 and on 1, and installed, but locked on 1 alone.
    changes("yank", 0, x -> bit(x.yank(0, 2, true)), "closures 0: 0", "story 0: 1", "story 1: 1",
        "closures 2: 0", "story 2: 1", "closures for all licences: 0", "yanked 0, 2: 1");
    changes("yank what is not asked for", 0, x -> bit(x.yank(0, 1, true)), "yanked 0, 1: 1");
    changes("not yank", 1, x -> bit(x.yank(1, 3, false)), "yanked 1, 3: 0");
  }

  // Promises 13 to 15.
  private static void wishesAndPolicy() {
    changes("wish", 3, x -> x.wish(5, 0), with(TAPE_IS_EMPTY, "wishes: 3"));
    changes("wish that is not met", 3, x -> x.wish(4, 1), with(TAPE_IS_EMPTY,
        "closures 0: 0", "story 0: 4", "holds 1: 0", "closures 1: 0", "story 1: 4",
        "closures 2: 0", "story 2: 4", "closures for all licences: 0", "wishes: 3"));
    changes("unwish", 2, Portsmith::unwish, "holds 1: 0", "holds 2: 1", "wishes: 0");
    changes("policy", 7, x -> x.policy(3), "closures 0: 0", "story 0: 1", "holds 1: 0",
        "closures 1: 0", "story 1: 1", "closures 2: 0", "story 2: 1", "policy: 3");
  }

  // Promise 16.
  private static void solving() {
    changes("solve on 2", 0, x -> x.solve(2, NONE),
        "proposed 2, 0: 2", "proposed 2, 3: 0", "proposed 2, 5: 0");
    changes("solve on 0, but 1", 2, x -> x.solve(0, 1));
    changes("solve what cannot be", NONE, x -> {
      x.yank(0, 2, true);
      return x.solve(0, NONE);
    }, "proposed 0, 0: -1", "proposed 0, 3: -1", "proposed 0, 5: -1", "closures 0: 0",
        "story 0: 1", "story 1: 1", "closures 2: 0", "story 2: 1",
        "closures for all licences: 0", "yanked 0, 2: 1", "lock: IllegalStateException",
        // So the lock of 0 that Probe installs is the one that there was.
        "roll back to 3: 1", "roll back to 4: 3");
  }

  // Promise 20.
  private static void locking() {
    changes("lock", 3, x -> x.lock(0), "locked 0, 0: 2", "locked 0, 1: -1", "locked 0, 2: -1",
        "locked 0, 5: 0", "holds 0: 1");
  }

  // Promise 23.
  private static void advising() {
    changes("advise", 3, x -> x.advise(5, 1),
        with(TAPE_IS_EMPTY, "advised 1: 41", "advisories: 4"));
  }

  // Promises 25 to 27.
  private static void minutesRolesAndIndexes() {
    changes("pass", 507, x -> x.pass(7), "the minute: 507");
    List<String> signed = new ArrayList<>();
    for (int by = 0; by < 32; by++) {
      boolean wasEnough = Integer.bitCount(by & 7) >= 2;
      boolean isEnough = (by & 24) != 0;
      if (wasEnough != isEnough) {
        signed.add("signed " + by + ": " + (isEnough ? 3 : 1));
      }
    }
    changes("role", 1, x -> bit(x.role(24, 1, 27)), signed.toArray(new String[0]));
    changes("index", 0, x -> x.index(41, 2000, 6), "index 40: 2");
    changes("index, the greatest", 0, x -> x.index(9999, 200000, 31),
        "index 40: 2", "index 41: 2", "index 9998: 2");
  }

  // Promises 28 to 30.
  private static void mirrorsAndStore() {
    changes("mirror", 11, x -> x.mirror(2, 0, 1, 3), "gives 2: 3");
    changes("mirror that is shut", 0, x -> x.mirror(1, 5, 0, NONE), "gives of 5 1: 50");
    changes("shut", 0, x -> bit(x.shut(2, true)), "shut 2: 1");
    changes("open", 1, x -> bit(x.shut(1, false)), "shut 1: 0");
    changes("fetch", 0, x -> x.fetch(0, 0), "fetch 0: 3");
    changes("fetch what a mirror lies of", 2, x -> {
      x.mirror(0, 0, 0, 1);
      return x.fetch(0, 0);
    }, "lies 0: 2", "fetch 0: 3");
    // Probe opens 1, and then fetches it.
    changes("fetch what no mirror gives", NONE, x -> {
      x.mirror(0, 0, 0, 1);
      x.mirror(2, 0, 0, 1);
      return x.fetch(0, 0);
    }, "lies 0: 2", "lies 2: 1", "fetch 0: 1");
  }

  // Promises 32 and 33.
  private static void filesAndDiversions() {
    // It comes with the next install, which Probe makes of the lock of 0, as it is proposed.
    changes("file", 3, x -> x.file(0, 2, 9, 9, false),
        "files 2: IllegalStateException", "roll back to 0: 5", "roll back to 3: 5");
    changes("divert", 3, x -> x.divert(1, 1, 9), "diverted 0: 3");
    String[] one = new String[7];
    for (int path = 0; path < 7; path++) {
      one[path] = "diverted " + path + ": 1";
    }
    changes("divert no more", 1, x -> x.divert(NONE, 7, 15), one);
  }

  // Promise 34.
  private static void installing() {
    changes("install", 3, x -> x.install(0, 99), "steps: 6", "aside: 3", "generation: 3",
        "generations: 4", "path 0, 0: 100", "path 0, 1: 0", "path 0, 2: 100", "path 1, 2: 101",
        "path 8, 0: -1", "path 8, 1: -1", "path 8, 2: -1",
        "installed 0: 1", "installed 1: 0", "installed 2: 0", "installed 5: -1", "runs 3: 0",
        "install: 4", "install 1: 5", "roll back to 3: 1", "roll back to 4: 3",
        "roll back to 5: 0", "collect: 5");
    changes("install, cut off", NONE, x -> x.install(0, 5), "steps: 5");
    changes("install, cut off at once", NONE, x -> x.install(1, 0), "steps: 0");
  }

  private static void installingAnotherLock() {
    changes("install what is there", 3, x -> x.install(1, 99), "steps: 5", "generation: 3",
        "generations: 4", "runs 3: 0", "install: 4", "install 1: 5", "roll back to 4: 3",
        "roll back to 5: 0", "collect: 5");
    changes("install the empty lock", 3, x -> x.install(2, 99), "steps: 5", "generation: 3",
        "generations: 4", "path 1, 0: -1", "path 1, 1: -1", "path 1, 2: -1", "path 2, 0: -1",
        "path 2, 1: -1", "path 2, 2: -1", "path 8, 0: -1", "path 8, 1: -1", "path 8, 2: -1",
        "path 14, 0: -1", "path 14, 1: -1", "path 14, 2: -1", "installed 0: -1",
        "installed 3: -1", "installed 5: -1", "runs 3: 0", "install: 4", "install 1: 5",
        "roll back to 0: 3", "roll back to 4: 5", "roll back to 5: 0", "collect: 5");
  }

  // Promise 36.
  private static void editing() {
    changes("edit", 102, x -> x.edit(2, 9), "path 2, 0: 9");
    changes("edit a configuration back to what was packed", 903, x -> x.edit(14, 300),
        "path 14, 0: 300", "roll back to 0: 3", "roll back to 3: 3");
  }

  // Promise 40.
  private static void running() {
    changes("run", 0, x -> bit(x.run(2, true)), "runs 2: 1");
    changes("run the machine's", 0, x -> bit(x.run(1, true)), "runs 1: 1");
    changes("run no more", 1, x -> bit(x.run(0, false)), "runs 0: 0");
  }

  // Promise 41.
  private static void rollingBack() {
    changes("rollback", 4, x -> x.rollback(0), "generation: 0", "path 0, 0: 100", "path 0, 1: 0",
        "path 0, 2: 100", "path 1, 0: 101", "path 1, 2: 101", "path 8, 0: -1", "path 8, 1: -1",
        "path 8, 2: -1", "path 14, 0: 300", "installed 0: 1", "installed 1: 0", "installed 2: 0",
        "installed 5: -1", "roll back to 0: 3", "roll back to 3: 3");
    changes("rollback to the machine's", 1, x -> x.rollback(1), "path 14, 0: 300",
        "roll back to 0: 3", "roll back to 3: 3");
  }

  // Promise 42.
  private static void collecting() {
    changes("collect", 1, Portsmith::collect, "generations: 2",
        "runs 2: IndexOutOfBoundsException", "roll back to 2: IndexOutOfBoundsException",
        "collect: 3");
    changes("collect all but the machine's", 2, x -> {
      x.run(0, false);
      return x.collect();
    }, "generations: 1", "runs 0: IndexOutOfBoundsException", "runs 2: IndexOutOfBoundsException",
        "roll back to 0: IndexOutOfBoundsException", "roll back to 1: 4",
        "roll back to 2: IndexOutOfBoundsException", "collect: 2");
  }
}
