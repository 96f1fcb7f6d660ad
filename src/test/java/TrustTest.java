/** Promises 25 to 31: minutes, the role, indexes, mirrors and the store. */
public final class TrustTest {
  private static final int NONE = Portsmith.NONE;

  public static void main(String[] args) {
    minutes();
    roles();
    roleRefuses();
    indexes();
    indexRefuses();
    mirrors();
    shut();
    fetches();
    liesCount();
    Check.end();
  }

  private static void minutes() {
    Portsmith x = new Portsmith();
    Check.is("at first", 0, () -> x.pass(0));
    Check.is("one", 1, () -> x.pass(1));
    Check.noArgument("-1", () -> x.pass(-1));
    Check.noArgument("1001", () -> x.pass(1001));
    for (int i = 1; i < 100; i++) {
      x.pass(1000);
    }
    Check.is("99001", 99001, () -> x.pass(0));
    Check.noState("100001", () -> x.pass(1000));
    Check.noArgument("too many at once, and in all", () -> x.pass(1001));
    Check.is("100000", 100000, () -> x.pass(999));
    Check.noState("one more", () -> x.pass(1));
    Check.is("none more", 100000, () -> x.pass(0));
  }

  private static void roles() {
    Portsmith x = new Portsmith();
    Check.holds("not by the new one alone", false, () -> x.role(6, 1, 6));
    Check.holds("not by the old one alone", false, () -> x.role(6, 1, 1));
    Check.holds("by both", true, () -> x.role(6, 2, 7));
    Check.holds("unsigned", false, () -> x.role(1, 1, 0));
    Check.holds("one of two", false, () -> x.role(1, 1, 3));
    Check.holds("two of two, and the new one", true, () -> x.role(31, 3, 14));
    Check.holds("two of three", false, () -> x.role(1, 1, 17));
    Check.holds("more than the threshold", true, () -> x.role(16, 1, 31));
  }

  private static void roleRefuses() {
    Portsmith x = new Portsmith();
    Check.noArgument("keys 0", () -> x.role(0, 1, 1) ? 1 : 0);
    Check.noArgument("keys 0, threshold 0", () -> x.role(0, 0, 1) ? 1 : 0);
    Check.noArgument("keys 32", () -> x.role(32, 1, 1) ? 1 : 0);
    Check.noArgument("keys -1", () -> x.role(-1, 1, 1) ? 1 : 0);
    Check.noArgument("threshold 0", () -> x.role(1, 0, 1) ? 1 : 0);
    Check.noArgument("threshold above its keys", () -> x.role(5, 3, 31) ? 1 : 0);
    Check.noArgument("signed -1", () -> x.role(1, 1, -1) ? 1 : 0);
    Check.noArgument("signed 32", () -> x.role(1, 1, 32) ? 1 : 0);
    Check.holds("the role is as it was", true, () -> x.role(1, 1, 1));
  }

  private static void indexes() {
    Portsmith x = new Portsmith();
    Check.is("of key 1", 1, () -> x.index(0, 1, 2));
    Check.is("unsigned, and ended", 1, () -> x.index(0, 0, 0));
    Check.is("ends now", 3, () -> x.index(9, 0, 1));
    Check.is("what is not accepted does not count", 0, () -> x.index(0, 1, 1));
    Check.is("number 7", 0, () -> x.index(7, 5, 31));
    Check.is("again", 0, () -> x.index(7, 5, 1));
    Check.is("below, and ended", 2, () -> x.index(6, 0, 1));
    x.pass(4);
    Check.is("ends in a minute", 0, () -> x.index(8, 5, 1));
    x.pass(1);
    Check.is("ends at the minute", 3, () -> x.index(8, 5, 1));
    Check.is("ends ahead of it", 3, () -> x.index(8, 4, 1));
    Check.is("ends behind it", 0, () -> x.index(9999, 200000, 1));
    x.role(14, 2, 7);
    Check.is("by the old role", 1, () -> x.index(9999, 200000, 1));
    Check.is("by one of the new", 1, () -> x.index(9999, 200000, 9));
    Check.is("by two of the new", 0, () -> x.index(9999, 200000, 12));
    Check.is("the last one stays with a new role", 2, () -> x.index(9998, 200000, 12));
  }

  private static void indexRefuses() {
    Portsmith x = new Portsmith();
    Check.noArgument("number -1", () -> x.index(-1, 1, 1));
    Check.noArgument("number 10000", () -> x.index(10000, 1, 1));
    Check.noArgument("ends -1", () -> x.index(0, -1, 1));
    Check.noArgument("ends 200001", () -> x.index(0, 200001, 1));
    Check.noArgument("signed -1", () -> x.index(0, 1, -1));
    Check.noArgument("signed 32", () -> x.index(0, 1, 32));
  }

  private static void mirrors() {
    Portsmith x = new Portsmith();
    x.version(2, 1000, 0, 0, 77);
    Check.is("at first its content", 77, () -> x.mirror(0, 2, 0, 0));
    Check.is("was told", 0, () -> x.mirror(0, 2, 0, 999));
    Check.is("was told 999", 999, () -> x.mirror(0, 2, 0, NONE));
    Check.is("its content again", 77, () -> x.mirror(0, 2, 0, NONE));
    x.shut(1, true);
    Check.is("a shut one as well", 77, () -> x.mirror(1, 2, 0, 5));
    Check.is("was told while shut", 5, () -> x.mirror(1, 2, 0, 5));
    Check.is("another one", 77, () -> x.mirror(2, 2, 0, 5));
    Check.noPlace("mirror 3", () -> x.mirror(3, 2, 0, 1000));
    Check.noPlace("mirror -1", () -> x.mirror(-1, 2, 0, 1));
    Check.noPlace("package 6", () -> x.mirror(0, 6, 0, 1));
    Check.noPlace("package -1", () -> x.mirror(0, -1, 0, 1));
    Check.noPlace("version 1", () -> x.mirror(0, 2, 1, 1));
    Check.noPlace("version -1", () -> x.mirror(0, 2, -1, -2));
    Check.noArgument("content -2", () -> x.mirror(0, 2, 0, -2));
    Check.noArgument("content 1000", () -> x.mirror(0, 2, 0, 1000));
    Check.is("what throws tells nothing", 77, () -> x.mirror(0, 2, 0, 1));
  }

  private static void shut() {
    Portsmith x = new Portsmith();
    for (int mirror = 0; mirror < 3; mirror++) {
      int of = mirror;
      Check.holds("open at first", false, () -> x.shut(of, true));
      Check.holds("shut", true, () -> x.shut(of, true));
      Check.holds("shut still", true, () -> x.shut(of, false));
      Check.holds("open", false, () -> x.shut(of, false));
    }
    Check.noPlace("mirror 3", () -> x.shut(3, true) ? 1 : 0);
    Check.noPlace("mirror -1", () -> x.shut(-1, true) ? 1 : 0);
  }

  private static void fetches() {
    Portsmith x = new Portsmith();
    for (int version = 0; version < 4; version++) {
      x.version(1, 1000, 0, 0, 10 + version);
    }
    Check.is("from the first", 0, () -> x.fetch(1, 0));
    Check.is("from the store", 3, () -> x.fetch(1, 0));
    x.mirror(0, 1, 0, 99);
    Check.is("it stays there", 3, () -> x.fetch(1, 0));
    Check.is("no lie is asked for", 0, () -> x.lies(0));
    x.mirror(0, 1, 1, 12);
    x.mirror(1, 1, 1, 11);
    Check.is("from the second, told the content", 1, () -> x.fetch(1, 1));
    Check.is("one lie", 1, () -> x.lies(0));
    x.shut(0, true);
    x.shut(1, true);
    Check.is("from the third, others are shut", 2, () -> x.fetch(1, 2));
    Check.is("a shut one tells no lie", 1, () -> x.lies(0));
    x.shut(2, true);
    Check.is("all are shut", NONE, () -> x.fetch(1, 3));
    Check.is("the store is open", 3, () -> x.fetch(1, 2));
    Check.noPlace("package 6", () -> x.fetch(6, 0));
    Check.noPlace("package -1", () -> x.fetch(-1, 0));
    Check.noPlace("version 4", () -> x.fetch(1, 4));
    Check.noPlace("version -1", () -> x.fetch(1, -1));
  }

  private static void liesCount() {
    Portsmith x = new Portsmith();
    x.version(0, 1000, 0, 0, 5);
    x.mirror(0, 0, 0, 6);
    x.mirror(1, 0, 0, 0);
    x.mirror(2, 0, 0, 7);
    x.shut(1, true);
    Check.is("all lie", NONE, () -> x.fetch(0, 0));
    Check.is("and again", NONE, () -> x.fetch(0, 0));
    Check.is("twice", 2, () -> x.lies(0));
    Check.is("shut", 0, () -> x.lies(1));
    Check.is("twice too", 2, () -> x.lies(2));
    x.mirror(0, 0, 0, NONE);
    Check.is("from the first", 0, () -> x.fetch(0, 0));
    Check.is("those behind were not asked", 2, () -> x.lies(2));
    Check.noPlace("mirror 3", () -> x.lies(3));
    Check.noPlace("mirror -1", () -> x.lies(-1));
  }
}
