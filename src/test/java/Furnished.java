/**
 * An object that has something of everything, but not all that it may have; for tests that look
 * whether a call leaves all as it was, and what there still is room for.
 */
final class Furnished {
  private static final int NONE = Portsmith.NONE;

  private Furnished() {
  }

  /** The package 1 has 4 versions, 0 and 5 have 3, 2 and 3 have one, and 4 has none. */
  static Portsmith make() {
    Portsmith x = new Portsmith();
    tellVersions(x);
    tellWhatVersionsTell(x);
    tellFiles(x);
    trust(x);
    solve(x);
    install(x);
    Check.tape(x, ">=1,<3-2");
    return x;
  }

  private static void tellVersions(Portsmith x) {
    x.scheme(1, Portsmith.EPOCHS);
    x.scheme(2, Portsmith.LAST);
    for (int version = 0; version < 3; version++) {
      x.version(0, 1000 * version + 1000, 15, version, 10 + version);
      x.version(5, 1000 + version, 3, 0, 50 + version);
    }
    for (int version = 0; version < 4; version++) {
      x.version(1, 11000 - 1000 * version, version, 1, 20 + version);
    }
    x.version(2, 1010, 0, 0, 30);
    x.version(3, 1000, 4, 2, 40);
    x.yank(1, 3, true);
  }

  /** Of package 0 the version 1 tells as much as it may, the version 2 less, the others nothing. */
  private static void tellWhatVersionsTell(Portsmith x) {
    for (int other = 1; other < 5; other++) {
      Check.tape(x, "*");
      x.need(0, 1, other, 0, 3, other == 4 ? 8 : NONE);
    }
    Check.need(x, 0, 2, 3, ">=1");
    Check.conflict(x, 0, 1, 5, "=1-1");
    Check.conflict(x, 0, 1, 5, "=1-2");
    Check.conflict(x, 0, 2, 5, "<1");
    x.provide(0, 1, 4, 1000);
    x.provide(0, 1, 4, 2000);
    x.provide(0, 2, 4, 3000);
  }

  private static void tellFiles(Portsmith x) {
    x.file(0, 1, 0, 100, false);
    x.file(0, 1, 1, 101, true);
    x.file(0, 1, 2, 102, false);
    x.file(0, 2, 1, 111, true);
    x.file(0, 2, 2, 102, false);
    x.file(3, 0, 14, 300, true);
    x.file(5, 0, 7, 500, false);
    x.divert(0, 7, 8);
    x.divert(5, 13, 3);
  }

  private static void trust(Portsmith x) {
    x.pass(500);
    x.role(7, 2, 3);
    x.index(40, 2000, 6);
    x.mirror(0, 0, 1, 999);
    x.mirror(1, 5, 0, 0);
    x.shut(1, true);
    x.fetch(0, 1);
    x.fetch(5, 2);
  }

  private static void solve(Portsmith x) {
    Check.tape(x, ">=2");
    x.advise(0, 4);
    Check.tape(x, "*");
    x.advise(3, 9);
    x.policy(7);
    Check.wish(x, 0, "=2", 0);
    x.solve(0, NONE);
    x.lock(0);
    x.unwish();
    Check.wish(x, 0, "=3", 0);
    Check.wish(x, 5, "*", 2);
    x.solve(1, NONE);
    x.lock(1);
    x.solve(0, 0);
  }

  private static void install(Portsmith x) {
    x.install(0, 99);
    x.edit(1, 901);
    x.install(1, 99);
    x.install(0, 99);
    x.run(0, true);
    x.edit(1, 902);
    x.rollback(1);
    x.edit(14, 903);
    x.install(0, 2);
  }
}
