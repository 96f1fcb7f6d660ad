/** Promises 13 to 24: wishes, policy, solutions, closures, stories, locks and advisories. */
public final class SolveTest {
  private static final int NONE = Portsmith.NONE;

  public static void main(String[] args) {
    wishes();
    policies();
    nothingWished();
    choosesTheGreatest();
    choosesByPackages();
    choosesTheFewest();
    changesLeast();
    countsNoLockOfOne();
    features();
    featuresAskedByMoreThanOne();
    featuresAskedLate();
    platforms();
    provided();
    providedBySchemes();
    meetsItself();
    conflicts();
    conflictsBySchemes();
    moreConflicts();
    licences();
    yanked();
    unreached();
    rounds();
    closures();
    stories();
    proposals();
    locks();
    holds();
    oneCallAfterAnother();
    oneChoiceAfterAnother();
    advisories();
    refusals();
    Check.end();
  }

  private static void told(String what, Portsmith x, int platform, int... versions) {
    for (int pack = 0; pack < versions.length; pack++) {
      int of = pack;
      Check.is(what + ", package " + pack, versions[pack], () -> x.proposed(platform, of));
    }
  }

  private static void wishes() {
    Portsmith x = new Portsmith();
    Check.noArgument("an empty tape", () -> x.wish(0, 0));
    Check.tape(x, "*");
    Check.noPlace("package 6", () -> x.wish(6, 16));
    Check.noPlace("package -1", () -> x.wish(-1, 0));
    Check.noArgument("features 16", () -> x.wish(0, 16));
    Check.noArgument("features -1", () -> x.wish(0, -1));
    Check.is("first", 1, () -> x.wish(0, 15));
    Check.is("the tape is empty then", 0, x::wipe);
    Check.is("second", 2, () -> Check.wish(x, 5, "=1", 0));
    Check.is("third", 3, () -> Check.wish(x, 5, "=1", 0));
    Check.is("fourth", 4, () -> Check.wish(x, 5, "=1", 0));
    Check.noState("fifth", () -> Check.wish(x, 5, "=1", 0));
    Check.is("the tape stays", 2, x::wipe);
    Check.noArgument("fifth, without a range", () -> x.wish(5, 0));
    Check.is("dropped", 4, x::unwish);
    Check.is("none to drop", 0, x::unwish);
    Check.is("first again", 1, () -> Check.wish(x, 5, "=1", 0));
  }

  private static void policies() {
    Portsmith x = new Portsmith();
    Check.is("all at first", 15, () -> x.policy(0));
    Check.is("none", 0, () -> x.policy(5));
    Check.noArgument("16", () -> x.policy(16));
    Check.noArgument("-1", () -> x.policy(-1));
    Check.is("what throws sets nothing", 5, () -> x.policy(15));
  }

  private static void nothingWished() {
    Portsmith x = new Portsmith();
    Check.version(x, 0, 1000);
    Check.is("nothing is a closure", 1, () -> x.closures(0));
    Check.is("no changes", 0, () -> x.solve(0, NONE));
    told("nothing wished", x, 0, NONE, NONE, NONE, NONE, NONE, NONE);
    Check.is("no story", NONE, () -> x.story(0));
    Check.holds("the empty lock holds", true, () -> x.holds(0));
    Check.is("nothing locked", 0, () -> x.lock(0));
    Check.wish(x, 0, "*", 0);
    Check.holds("it holds no more", false, () -> x.holds(0));
    Check.is("one closure", 1, () -> x.closures(0));
  }

  private static void choosesTheGreatest() {
    Portsmith x = new Portsmith();
    Check.version(x, 0, 1000);
    Check.version(x, 0, 11000);
    Check.version(x, 0, 2003);
    Check.version(x, 0, 1000);
    Check.wish(x, 0, "*", 0);
    Check.is("changes", 0, () -> x.solve(1, NONE));
    told("alike ones by their numbers", x, 1, 3, NONE);
    told("of another platform nothing", x, 0, NONE);
    x.scheme(0, Portsmith.EPOCHS);
    x.solve(1, NONE);
    told("the greatest epoch", x, 1, 1, NONE);
    x.unwish();
    Check.wish(x, 0, ">2-2", 0);
    x.solve(1, NONE);
    told("greater than a preview", x, 1, 1);
    x.unwish();
    Check.wish(x, 0, "<2", 0);
    x.solve(1, NONE);
    told("below it", x, 1, 3);
  }

  private static void choosesByPackages() {
    Portsmith x = new Portsmith();
    // Two ways to meet the wish for 5: by 0 with 1, or by 2 with 3. The one without 0 goes first.
    for (int pack = 0; pack < 4; pack++) {
      Check.version(x, pack, 1000);
      Check.version(x, pack, 2000);
    }
    for (int pack = 0; pack < 4; pack += 2) {
      for (int version = 0; version < 2; version++) {
        x.provide(pack, version, 5, 1000);
        Check.need(x, pack, version, pack + 1, version == 1 ? "=1" : "*");
      }
    }
    Check.wish(x, 5, "*", 0);
    Check.is("changes", 0, () -> x.solve(0, NONE));
    told("none of 0", x, 0, NONE, NONE, 1, 0, NONE, NONE);
  }

  private static void choosesTheFewest() {
    Portsmith x = new Portsmith();
    Check.version(x, 0, 1000);
    Check.version(x, 0, 2000);
    Check.version(x, 1, 1000);
    Check.need(x, 0, 1, 1, "*");
    Check.wish(x, 0, "*", 0);
    Check.is("changes", 0, () -> x.solve(0, NONE));
    told("fewer packages go before greater versions", x, 0, 0, NONE);
  }

  private static void changesLeast() {
    Portsmith x = new Portsmith();
    for (int pack = 0; pack < 3; pack++) {
      Check.version(x, pack, 1000);
    }
    Check.need(x, 0, 0, 1, "*");
    Check.wish(x, 0, "*", 0);
    Check.wish(x, 2, "*", 0);
    x.solve(0, NONE);
    Check.is("all three locked", 3, () -> x.lock(0));
    Check.version(x, 0, 2000);
    Check.version(x, 1, 2000);
    Check.is("nothing to change", 0, () -> x.solve(0, NONE));
    told("as locked", x, 0, 0, 0, 0);
    x.unwish();
    Check.wish(x, 0, ">=2", 0);
    // 0 must change, 1 and 2 need not be there: what is not there is a change as well.
    Check.is("all three changed", 3, () -> x.solve(0, NONE));
    told("only 0", x, 0, 1, NONE, NONE);
    Check.need(x, 0, 1, 1, "*");
    Check.is("two changed", 2, () -> x.solve(0, NONE));
    told("1 as locked", x, 0, 1, 0, NONE);
    Check.wish(x, 1, ">1", 0);
    Check.wish(x, 2, "*", 0);
    Check.is("two changed, other ones", 2, () -> x.solve(0, NONE));
    told("2 as locked", x, 0, 1, 1, 0);
    Check.is("on another platform nothing is locked", 0, () -> x.solve(1, NONE));
    // What was not locked is no change when it comes.
    Check.version(x, 5, 1000);
    Check.wish(x, 5, "*", 0);
    Check.is("a new one is none", 2, () -> x.solve(0, NONE));
  }

  private static void countsNoLockOfOne() {
    Portsmith x = new Portsmith();
    Check.version(x, 0, 1000);
    Check.version(x, 1, 1000);
    Check.wish(x, 0, "*", 0);
    Check.wish(x, 1, "*", 0);
    x.solve(2, NONE);
    x.lock(2);
    Check.version(x, 0, 2000);
    Check.version(x, 1, 2000);
    Check.is("but 0", 0, () -> x.solve(2, 0));
    told("0 is renewed", x, 2, 1, 0);
    Check.is("but 1", 0, () -> x.solve(2, 1));
    told("1 is renewed", x, 2, 0, 1);
    Check.is("but none of these", 0, () -> x.solve(2, 5));
    told("both stay", x, 2, 0, 0);
    x.yank(0, 0, true);
    Check.is("yanked as locked", 0, () -> x.solve(2, NONE));
    told("it stays", x, 2, 0, 0);
    Check.is("yanked, but 0", 0, () -> x.solve(2, 0));
    told("it cannot be chosen", x, 2, 1, 0);
    Check.is("the lock is as it was", 0, () -> x.locked(2, 0));
  }

  private static void features() {
    Portsmith x = new Portsmith();
    x.version(0, 1000, 3, 0, 0);
    x.version(0, 2000, 1, 0, 0);
    Check.version(x, 1, 1000);
    Check.version(x, 2, 1000);
    Check.tape(x, "*");
    x.need(0, 0, 1, 0, 7, 2);
    Check.tape(x, "*");
    x.need(0, 0, 2, 0, 7, 1);
    Check.wish(x, 0, "*", 0);
    x.solve(0, NONE);
    told("without features", x, 0, 1, NONE, NONE);
    Check.is("each version, alone", 2, () -> x.closures(0));
    x.unwish();
    Check.wish(x, 0, "*", 2);
    x.solve(0, NONE);
    told("with 2", x, 0, 0, 0, NONE);
    x.unwish();
    Check.wish(x, 0, "*", 3);
    x.solve(0, NONE);
    told("with both", x, 0, 0, 0, 0);
    x.unwish();
    Check.wish(x, 0, "*", 4);
    Check.is("with one that none has", NONE, () -> x.solve(0, NONE));
    x.unwish();
    Check.wish(x, 0, "=2", 2);
    Check.is("with one that another has", NONE, () -> x.solve(0, NONE));
  }

  private static void featuresAskedByMoreThanOne() {
    Portsmith x = new Portsmith();
    Check.version(x, 0, 1000);
    x.version(1, 1000, 12, 0, 0);
    Check.version(x, 2, 1000);
    Check.version(x, 3, 1000);
    Check.tape(x, "*");
    x.need(0, 0, 1, 4, 7, NONE);
    Check.tape(x, "*");
    x.need(1, 0, 2, 0, 7, 4);
    Check.tape(x, "*");
    x.need(2, 0, 1, 8, 7, NONE);
    Check.tape(x, "*");
    x.need(1, 0, 3, 0, 7, 8);
    Check.wish(x, 0, "*", 0);
    Check.is("one closure: features switch on needs in turn", 1, () -> x.closures(0));
    x.solve(0, NONE);
    told("all of them", x, 0, 0, 0, 0, 0);
    x.unwish();
    Check.wish(x, 1, "*", 0);
    x.solve(0, NONE);
    told("with no feature on", x, 0, NONE, 0, NONE, NONE);
  }

  private static void featuresAskedLate() {
    Portsmith x = new Portsmith();
    x.version(0, 1000, 1, 0, 0);
    Check.version(x, 1, 1000);
    Check.tape(x, "*");
    x.need(0, 0, 2, 0, 7, 1);
    Check.tape(x, "*");
    x.need(1, 0, 0, 1, 7, NONE);
    Check.wish(x, 0, "*", 0);
    Check.wish(x, 1, "*", 0);
    // Both are reached by wishes; only then the feature is on, and there is no package 2.
    Check.is("the need is not met", 0, () -> x.closures(0));
    Check.is("for the wish that asks for the feature", 2, () -> x.story(0));
    Check.version(x, 2, 1000);
    Check.is("it is", 1, () -> x.closures(0));
  }

  private static void platforms() {
    Portsmith x = new Portsmith();
    for (int pack = 0; pack < 3; pack++) {
      Check.version(x, pack, 1000);
    }
    Check.tape(x, "*");
    x.need(0, 0, 1, 0, 1, NONE);
    Check.tape(x, "*");
    x.need(0, 0, 2, 0, 6, NONE);
    Check.wish(x, 0, "*", 0);
    x.solve(0, NONE);
    x.solve(1, NONE);
    x.solve(2, NONE);
    told("on platform 0", x, 0, 0, 0, NONE);
    told("on platform 1", x, 1, 0, NONE, 0);
    told("on platform 2", x, 2, 0, NONE, 0);
  }

  private static void provided() {
    Portsmith x = new Portsmith();
    Check.version(x, 0, 1000);
    x.provide(0, 0, 1, 3000);
    x.version(1, 1000, 1, 0, 0);
    Check.wish(x, 1, ">2", 0);
    x.solve(0, NONE);
    told("provided by 0", x, 0, 0, NONE);
    // 1 is not in the range, so it is not reached.
    Check.is("alone", 1, () -> x.closures(0));
    x.unwish();
    Check.wish(x, 1, "*", 0);
    Check.is("each, and both", 3, () -> x.closures(0));
    x.solve(0, NONE);
    told("none of 0", x, 0, NONE, 0);
    x.unwish();
    Check.wish(x, 1, "*", 1);
    Check.is("with a feature nothing is provided", 1, () -> x.closures(0));
    x.unwish();
    Check.wish(x, 1, ">3", 0);
    Check.is("above what is provided", 0, () -> x.closures(0));
  }

  private static void providedBySchemes() {
    Portsmith x = new Portsmith();
    Check.version(x, 0, 1000);
    x.provide(0, 0, 1, 11000);
    Check.wish(x, 1, "=1", 0);
    Check.is("by NUMBERS alike", 1, () -> x.closures(0));
    x.scheme(0, Portsmith.EPOCHS);
    Check.is("by the scheme of 1, not of 0", 1, () -> x.closures(0));
    x.scheme(1, Portsmith.EPOCHS);
    Check.is("by EPOCHS not", 0, () -> x.closures(0));
    x.unwish();
    Check.wish(x, 1, "=1:1", 0);
    Check.is("with the epoch", 1, () -> x.closures(0));
    x.provide(0, 0, 2, 1001);
    Check.wish(x, 2, "*", 0);
    Check.is("a preview is not in *", 0, () -> x.closures(0));
  }

  private static void meetsItself() {
    Portsmith x = new Portsmith();
    Check.version(x, 0, 1000);
    x.provide(0, 0, 1, 1000);
    Check.need(x, 0, 0, 1, "=1");
    Check.wish(x, 0, "*", 0);
    Check.is("a version may provide what it needs", 1, () -> x.closures(0));
    Check.conflict(x, 0, 0, 1, "*");
    Check.is("and its conflict is not of that", 1, () -> x.closures(0));
    Check.version(x, 2, 1000);
    x.provide(2, 0, 1, 1000);
    Check.wish(x, 2, "*", 0);
    Check.is("but of what another provides", 0, () -> x.closures(0));
    Check.is("neither without the other", 3, () -> x.story(0));
  }

  private static void conflicts() {
    Portsmith x = new Portsmith();
    Check.version(x, 0, 1000);
    Check.version(x, 1, 1000);
    Check.version(x, 1, 2000);
    Check.wish(x, 0, "*", 0);
    Check.wish(x, 1, "*", 0);
    Check.is("both", 2, () -> x.closures(0));
    Check.conflict(x, 0, 0, 1, ">=2");
    Check.is("one in the range", 1, () -> x.closures(0));
    x.solve(0, NONE);
    told("the other", x, 0, 0, 0);
    Check.conflict(x, 1, 0, 0, "<2");
    Check.is("from the other side too", NONE, () -> x.solve(0, NONE));
    // A conflict with what is not chosen is none.
    x.unwish();
    Check.wish(x, 0, "*", 0);
    Check.is("without the other", 0, () -> x.solve(0, NONE));
    told("0 alone", x, 0, 0, NONE);
  }

  private static void conflictsBySchemes() {
    Portsmith x = new Portsmith();
    for (int pack = 0; pack < 3; pack++) {
      Check.version(x, pack, 11000);
      Check.wish(x, pack, "*", 0);
    }
    Check.conflict(x, 0, 0, 1, "=1");
    Check.conflict(x, 2, 0, 1, "=1");
    Check.is("by NUMBERS they hold", 0, () -> x.closures(0));
    x.scheme(1, Portsmith.EPOCHS);
    Check.is("by EPOCHS they do not", 1, () -> x.closures(0));
    x.scheme(1, Portsmith.LAST);
    Check.is("by LAST they do", 3, () -> x.story(0));
  }

  private static void moreConflicts() {
    Portsmith x = new Portsmith();
    for (int pack = 0; pack < 4; pack++) {
      Check.version(x, pack, 1000);
    }
    Check.conflict(x, 3, 0, 1, "*");
    Check.conflict(x, 3, 0, 2, "*");
    Check.conflict(x, 0, 0, 2, "*");
    for (int pack = 0; pack < 3; pack++) {
      x.unwish();
      Check.wish(x, 3, "*", 0);
      Check.wish(x, pack, "*", 0);
      Check.is("3 with " + pack, pack == 0 ? NONE : 3, () -> x.story(0));
      x.unwish();
      Check.wish(x, pack, "*", 0);
      Check.wish(x, 2, "*", 0);
      Check.is("2 with " + pack, pack == 0 ? 3 : NONE, () -> x.story(0));
    }
  }

  private static void licences() {
    Portsmith x = new Portsmith();
    x.version(0, 1000, 0, 0, 0);
    x.version(0, 2000, 0, 3, 0);
    Check.wish(x, 0, "*", 0);
    x.solve(0, NONE);
    told("all licences", x, 0, 1);
    x.lock(0);
    Check.holds("the lock holds", true, () -> x.holds(0));
    x.policy(7);
    Check.holds("not by this policy", false, () -> x.holds(0));
    Check.is("a change", 1, () -> x.solve(0, NONE));
    told("without 3", x, 0, 0);
    x.policy(6);
    Check.is("without both", NONE, () -> x.solve(0, NONE));
    Check.is("whose wish", 1, () -> x.story(0));
    x.policy(8);
    Check.is("3 alone", 0, () -> x.solve(0, NONE));
  }

  private static void yanked() {
    Portsmith x = new Portsmith();
    Check.version(x, 0, 1000);
    Check.version(x, 0, 2000);
    Check.wish(x, 0, "*", 0);
    x.solve(0, NONE);
    x.lock(0);
    x.yank(0, 1, true);
    Check.is("possible as locked", 2, () -> x.closures(0));
    Check.is("not on another platform", 1, () -> x.closures(1));
    Check.holds("the lock holds", true, () -> x.holds(0));
    x.yank(0, 0, true);
    Check.is("both yanked", 1, () -> x.closures(0));
    Check.is("without a lock", 0, () -> x.closures(1));
    Check.is("whatever is locked", 1, () -> x.story(0));
    Check.is("it stays", 0, () -> x.solve(0, NONE));
    Check.is("but 0", NONE, () -> x.solve(0, 0));
    Check.is("on another", NONE, () -> x.solve(1, NONE));
    x.yank(0, 0, false);
    Check.is("one is back", NONE, () -> x.story(0));
  }

  private static void unreached() {
    Portsmith x = new Portsmith();
    Check.version(x, 0, 1000);
    Check.version(x, 1, 1000);
    Check.version(x, 2, 1000);
    // 1 and 2 need each other: that reaches neither.
    Check.need(x, 1, 0, 2, "*");
    Check.need(x, 2, 0, 1, "*");
    Check.wish(x, 0, "*", 0);
    Check.is("only 0", 1, () -> x.closures(0));
    x.version(3, 1000, 1, 0, 0);
    Check.tape(x, "*");
    x.need(0, 0, 1, 0, 7, 1);
    Check.is("a need that is not active reaches nothing", 1, () -> x.closures(0));
  }

  private static void rounds() {
    Portsmith x = new Portsmith();
    for (int pack = 0; pack < 6; pack++) {
      Check.version(x, pack, 1000);
    }
    for (int pack = 5; pack > 0; pack--) {
      Check.need(x, pack, 0, pack - 1, "*");
    }
    Check.need(x, 0, 0, 5, "*");
    Check.wish(x, 3, "*", 0);
    Check.is("round about", 1, () -> x.closures(0));
    x.solve(0, NONE);
    told("all", x, 0, 0, 0, 0, 0, 0, 0);
    Check.is("all locked", 6, () -> x.lock(0));
    x.yank(4, 0, true);
    Check.holds("the lock holds", true, () -> x.holds(0));
    Check.is("one is yanked", 1, () -> x.story(0));
  }

  private static void closures() {
    Portsmith x = new Portsmith();
    for (int pack = 0; pack < 6; pack++) {
      for (int version = 0; version < 4; version++) {
        Check.version(x, pack, 1000 * version);
        if (pack > 0) {
          x.provide(pack, version, 0, 0);
        }
      }
    }
    Check.wish(x, 0, "*", 0);
    Check.is("each choice but the empty one", 15624, () -> x.closures(0));
    Check.is("one package", 0, () -> x.solve(0, NONE));
    told("the last one", x, 0, NONE, NONE, NONE, NONE, NONE, 3);
    Check.wish(x, 1, "=1", 0);
    Check.is("one of these", 3125, () -> x.closures(0));
  }

  private static void stories() {
    Portsmith x = new Portsmith();
    Check.version(x, 0, 1000);
    Check.version(x, 0, 2000);
    Check.version(x, 1, 1000);
    Check.version(x, 2, 1000);
    Check.wish(x, 1, "*", 0);
    Check.wish(x, 0, "<2", 0);
    Check.wish(x, 2, "*", 0);
    Check.wish(x, 0, ">1", 0);
    Check.is("two for one package, of which both are chosen", 10, () -> x.story(0));
    Check.conflict(x, 1, 0, 2, "*");
    Check.is("the least bits", 5, () -> x.story(0));
    x.unwish();
    Check.wish(x, 1, "*", 0);
    Check.wish(x, 3, "*", 0);
    Check.wish(x, 2, "*", 0);
    Check.is("the fewest wishes", 2, () -> x.story(0));
    x.unwish();
    Check.wish(x, 0, ">=1", 0);
    Check.wish(x, 1, "*", 0);
    Check.is("a closure for all", NONE, () -> x.story(0));
    // 0 in both versions rules out 1 with 4.
    Check.version(x, 4, 1000);
    Check.conflict(x, 4, 0, 0, "=1");
    Check.conflict(x, 1, 0, 0, "=2");
    Check.wish(x, 4, "*", 0);
    Check.is("all three", 7, () -> x.story(0));
    Check.is("the tape is not looked at", 0, x::wipe);
  }

  private static void proposals() {
    Portsmith x = new Portsmith();
    told("at first nothing", x, 1, NONE, NONE, NONE, NONE, NONE, NONE);
    Check.noState("nothing is proposed", () -> x.lock(1));
    Check.version(x, 0, 1000);
    Check.wish(x, 0, "*", 0);
    x.solve(1, NONE);
    Check.noState("nothing is, on another", () -> x.lock(0));
    x.unwish();
    Check.wish(x, 0, "=2", 0);
    told("the proposal stays", x, 1, 0);
    Check.is("it can be locked", 1, () -> x.lock(1));
    Check.is("and again", 1, () -> x.lock(1));
    Check.is("no solution", NONE, () -> x.solve(1, NONE));
    told("nothing is proposed any more", x, 1, NONE);
    Check.noState("nothing to lock", () -> x.lock(1));
    Check.is("the lock stays", 0, () -> x.locked(1, 0));
  }

  private static void locks() {
    Portsmith x = new Portsmith();
    for (int pack = 0; pack < 6; pack++) {
      int of = pack;
      Check.is("nothing locked", NONE, () -> x.locked(2, of));
    }
    Check.version(x, 1, 1000);
    Check.version(x, 1, 2000);
    Check.version(x, 5, 1000);
    Check.wish(x, 1, "*", 0);
    Check.wish(x, 5, "*", 0);
    x.solve(2, NONE);
    Check.is("two locked", 2, () -> x.lock(2));
    Check.is("version 1 of 1", 1, () -> x.locked(2, 1));
    Check.is("version 0 of 5", 0, () -> x.locked(2, 5));
    Check.is("none of 0", NONE, () -> x.locked(2, 0));
    Check.is("none elsewhere", NONE, () -> x.locked(1, 1));
    x.unwish();
    Check.is("both go", 2, () -> x.solve(2, NONE));
    Check.is("none locked", 0, () -> x.lock(2));
    Check.is("none of 1", NONE, () -> x.locked(2, 1));
  }

  private static void holds() {
    Portsmith x = new Portsmith();
    Check.version(x, 0, 1000);
    Check.version(x, 1, 1000);
    Check.wish(x, 0, "*", 0);
    Check.wish(x, 1, "*", 0);
    x.solve(0, NONE);
    x.lock(0);
    Check.holds("it does", true, () -> x.holds(0));
    Check.holds("not elsewhere", false, () -> x.holds(1));
    x.unwish();
    Check.wish(x, 0, "*", 0);
    Check.holds("1 is not reached", false, () -> x.holds(0));
    Check.wish(x, 1, "=1", 0);
    Check.holds("it is again", true, () -> x.holds(0));
    Check.need(x, 0, 0, 2, "*");
    Check.holds("a need is not met", false, () -> x.holds(0));
    x.provide(1, 0, 2, 1000);
    Check.holds("it is met", true, () -> x.holds(0));
    Check.conflict(x, 1, 0, 0, ">1");
    Check.holds("a conflict that does not hold", true, () -> x.holds(0));
    Check.conflict(x, 1, 0, 0, "*");
    Check.holds("one that holds", false, () -> x.holds(0));
  }

  /** What one call looked at says nothing in the next one. */
  private static void oneCallAfterAnother() {
    Portsmith x = new Portsmith();
    for (int pack = 0; pack < 6; pack++) {
      Check.version(x, pack, 1000);
      Check.version(x, pack, 2000);
    }
    Check.wish(x, 0, "=1", 0);
    Check.wish(x, 5, "=1", 0);
    x.solve(0, NONE);
    x.lock(0);
    Check.holds("the lock holds", true, () -> x.holds(0));
    x.unwish();
    Check.wish(x, 0, "*", 0);
    Check.wish(x, 5, "*", 0);
    Check.need(x, 0, 0, 4, "=9");
    Check.need(x, 5, 0, 4, "=9");
    Check.holds("it holds no more", false, () -> x.holds(0));
    Check.is("one closure is left", 1, () -> x.closures(0));
    Check.holds("it still does not hold", false, () -> x.holds(0));
    Check.is("both change", 2, () -> x.solve(0, NONE));
    told("to the other versions", x, 0, 1, NONE, NONE, NONE, NONE, 1);
    Check.holds("the lock is not yet so", false, () -> x.holds(0));
    Check.is("no story", NONE, () -> x.story(0));
    x.lock(0);
    Check.holds("now it holds", true, () -> x.holds(0));
  }

  /** A version that was tried, and cannot be, is in no way of the choices behind it. */
  private static void oneChoiceAfterAnother() {
    Portsmith x = new Portsmith();
    Check.version(x, 0, 1000);
    x.provide(0, 0, 1, 1000);
    Check.version(x, 1, 1000);
    Check.version(x, 1, 2000);
    Check.need(x, 1, 0, 4, "*");
    Check.wish(x, 1, "*", 0);
    Check.is("0, or 1 in its version 1, or both", 3, () -> x.closures(0));
  }

  private static void advisories() {
    Portsmith x = new Portsmith();
    Check.version(x, 0, 1000);
    Check.version(x, 0, 2000);
    Check.version(x, 4, 3002);
    Check.tape(x, ">=2");
    Check.noPlace("package 6", () -> x.advise(6, 0));
    Check.noPlace("package -1", () -> x.advise(-1, 1));
    Check.noArgument("severity 0", () -> x.advise(0, 0));
    Check.noArgument("severity 10", () -> x.advise(0, 10));
    Check.is("first", 1, () -> x.advise(0, 5));
    Check.is("the tape is empty then", 0, x::wipe);
    Check.noArgument("an empty tape", () -> x.advise(0, 5));
    Check.tape(x, "*");
    Check.is("of all releases of 4", 2, () -> x.advise(4, 9));
    Check.is("nothing is locked", 0, () -> x.advised(0, 1));
    Check.wish(x, 0, "*", 0);
    Check.wish(x, 4, ">=3-1", 0);
    x.solve(0, NONE);
    x.lock(0);
    Check.is("0 of severity 5", 1, () -> x.advised(0, 5));
    Check.is("or more", 1, () -> x.advised(0, 1));
    Check.is("not above", 0, () -> x.advised(0, 6));
    Check.is("not elsewhere", 0, () -> x.advised(1, 1));
    Check.tape(x, "<3-3");
    Check.is("third", 3, () -> x.advise(4, 1));
    Check.is("both", 17, () -> x.advised(0, 1));
    Check.is("0 alone", 1, () -> x.advised(0, 2));
    Check.noArgument("severity 0", () -> x.advised(0, 0));
    Check.noArgument("severity 10", () -> x.advised(0, 10));
    Check.noPlace("platform 3", () -> x.advised(3, 0));
    Check.noPlace("platform -1", () -> x.advised(-1, 1));
    for (int count = 4; count <= 6; count++) {
      Check.tape(x, "=1");
      Check.is("more of them", count, () -> x.advise(5, 1));
    }
    Check.tape(x, "=1");
    Check.noState("seventh", () -> x.advise(5, 1));
    Check.noArgument("seventh, out of range", () -> x.advise(5, 0));
    Check.is("the tape stays", 2, x::wipe);
  }

  private static void refusals() {
    Portsmith x = new Portsmith();
    int[] wrong = {-1, 3, Integer.MAX_VALUE, Integer.MIN_VALUE};
    for (int platform : wrong) {
      Check.noPlace("solve on " + platform, () -> x.solve(platform, NONE));
      Check.noPlace("proposed on " + platform, () -> x.proposed(platform, 0));
      Check.noPlace("closures on " + platform, () -> x.closures(platform));
      Check.noPlace("story on " + platform, () -> x.story(platform));
      Check.noPlace("lock on " + platform, () -> x.lock(platform));
      Check.noPlace("locked on " + platform, () -> x.locked(platform, 0));
      Check.noPlace("holds on " + platform, () -> x.holds(platform) ? 1 : 0);
    }
    int[] packs = {-2, 6, Integer.MAX_VALUE, Integer.MIN_VALUE};
    for (int pack : packs) {
      Check.noPlace("solve but " + pack, () -> x.solve(0, pack));
      Check.noPlace("proposed of " + pack, () -> x.proposed(0, pack));
      Check.noPlace("locked of " + pack, () -> x.locked(0, pack));
    }
    Check.noPlace("proposed of -1", () -> x.proposed(0, -1));
    Check.noPlace("locked of -1", () -> x.locked(0, -1));
  }
}
