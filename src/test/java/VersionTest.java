/** Promises 5 to 12: schemes, versions and what they tell, their order, and what ranges hold of. */
public final class VersionTest {
  private static final int NONE = Portsmith.NONE;

  public static void main(String[] args) {
    schemes();
    versions();
    needs();
    conflicts();
    provided();
    yanked();
    orders();
    ranges();
    rangesByOtherSchemes();
    withinRefuses();
    Check.end();
  }

  private static void schemes() {
    Portsmith x = new Portsmith();
    for (int pack = 0; pack < 6; pack++) {
      int of = pack;
      Check.is("at first", Portsmith.NUMBERS, () -> x.scheme(of, Portsmith.EPOCHS));
      Check.is("was EPOCHS", Portsmith.EPOCHS, () -> x.scheme(of, Portsmith.LAST));
      Check.is("was LAST", Portsmith.LAST, () -> x.scheme(of, Portsmith.LAST));
      Check.noArgument("scheme 3", () -> x.scheme(of, 3));
      Check.noArgument("scheme -1", () -> x.scheme(of, -1));
      Check.is("what throws sets nothing", Portsmith.LAST, () -> x.scheme(of, Portsmith.NUMBERS));
    }
    Check.noPlace("package 6", () -> x.scheme(6, 0));
    Check.noPlace("package -1", () -> x.scheme(-1, 0));
    Check.noPlace("both are wrong", () -> x.scheme(6, 3));
  }

  private static void versions() {
    Portsmith x = new Portsmith();
    Check.is("first", 0, () -> x.version(0, 0, 0, 0, 0));
    Check.is("second", 1, () -> x.version(0, 99999, 15, 3, 999));
    Check.is("alike the second", 2, () -> x.version(0, 99999, 15, 3, 999));
    Check.is("of another package", 0, () -> x.version(5, 12345, 1, 1, 1));
    Check.noPlace("package 6", () -> x.version(6, 0, 0, 0, 0));
    Check.noPlace("package -1", () -> x.version(-1, -1, 0, 0, 0));
    Check.noArgument("number -1", () -> x.version(0, -1, 0, 0, 0));
    Check.noArgument("number 100000", () -> x.version(0, 100000, 0, 0, 0));
    Check.noArgument("features -1", () -> x.version(0, 0, -1, 0, 0));
    Check.noArgument("features 16", () -> x.version(0, 0, 16, 0, 0));
    Check.noArgument("licence -1", () -> x.version(0, 0, 0, -1, 0));
    Check.noArgument("licence 4", () -> x.version(0, 0, 0, 4, 0));
    Check.noArgument("content -1", () -> x.version(0, 0, 0, 0, -1));
    Check.noArgument("content 1000", () -> x.version(0, 0, 0, 0, 1000));
    Check.is("fourth", 3, () -> x.version(0, 1, 0, 0, 0));
    Check.noState("fifth", () -> x.version(0, 1, 0, 0, 0));
    Check.noArgument("fifth, out of range", () -> x.version(0, 1, 0, 4, 0));
  }

  private static void needs() {
    Portsmith x = new Portsmith();
    Check.version(x, 0, 1000);
    Check.tape(x, "*");
    Check.is("first", 1, () -> x.need(0, 0, 1, 15, 7, 8));
    Check.noArgument("the tape is empty then", () -> x.need(0, 0, 1, 0, 7, NONE));
    Check.is("it is", 0, x::wipe);
    Check.tape(x, "*");
    Check.noPlace("package 6", () -> x.need(6, 0, 1, 0, 7, NONE));
    Check.noPlace("package -1", () -> x.need(-1, 0, 1, 0, 7, NONE));
    Check.noPlace("version 1", () -> x.need(0, 1, 1, 0, 7, NONE));
    Check.noPlace("version -1", () -> x.need(0, -1, 1, 0, 7, NONE));
    Check.noPlace("version of none", () -> x.need(1, 0, 2, 0, 7, NONE));
    Check.noPlace("other 6", () -> x.need(0, 0, 6, 16, 7, NONE));
    Check.noPlace("other -1", () -> x.need(0, 0, -1, 0, 7, NONE));
    Check.noArgument("its own package", () -> x.need(0, 0, 0, 0, 7, NONE));
    Check.noArgument("features -1", () -> x.need(0, 0, 1, -1, 7, NONE));
    Check.noArgument("features 16", () -> x.need(0, 0, 1, 16, 7, NONE));
    Check.noArgument("platforms 0", () -> x.need(0, 0, 1, 0, 0, NONE));
    Check.noArgument("platforms 8", () -> x.need(0, 0, 1, 0, 8, NONE));
    int[] wrong = {-2, 0, 3, 5, 6, 7, 9, 12, 15, 16};
    for (int own : wrong) {
      Check.noArgument("own " + own, () -> x.need(0, 0, 1, 0, 7, own));
    }
    Check.is("the tape stays", 2, () -> x.type('x', 1));
    Check.noArgument("a fault", () -> x.need(0, 0, 1, 0, 7, NONE));
    Check.is("the tape stays with a fault", 2, x::wipe);
    int[] right = {1, 2, 4};
    for (int own : right) {
      Check.tape(x, "=1");
      Check.is("own " + own, own == 4 ? 4 : own + 1, () -> x.need(0, 0, 5, 0, 1, own));
    }
    Check.tape(x, "*");
    Check.noState("fifth", () -> x.need(0, 0, 1, 0, 7, NONE));
    Check.noArgument("fifth, out of range", () -> x.need(0, 0, 1, 0, 7, 0));
    Check.is("the tape stays with a fifth", 1, x::wipe);
    Check.noArgument("fifth, without a range", () -> x.need(0, 0, 1, 0, 7, NONE));
  }

  private static void conflicts() {
    Portsmith x = new Portsmith();
    Check.version(x, 0, 1000);
    Check.tape(x, "*");
    Check.is("first", 1, () -> x.conflict(0, 0, 1));
    Check.is("the tape is empty then", 0, x::wipe);
    Check.noArgument("no range", () -> x.conflict(0, 0, 1));
    Check.tape(x, "*");
    Check.noPlace("package 6", () -> x.conflict(6, 0, 1));
    Check.noPlace("package -1", () -> x.conflict(-1, 0, 1));
    Check.noPlace("version 1", () -> x.conflict(0, 1, 1));
    Check.noPlace("version -1", () -> x.conflict(0, -1, 1));
    Check.noPlace("other 6", () -> x.conflict(0, 0, 6));
    Check.noPlace("other -1", () -> x.conflict(0, 0, -1));
    Check.noPlace("no version, its own package", () -> x.conflict(0, 1, 0));
    Check.noArgument("its own package", () -> x.conflict(0, 0, 0));
    Check.is("second", 2, () -> x.conflict(0, 0, 1));
    Check.tape(x, "*");
    Check.noState("third", () -> x.conflict(0, 0, 1));
    Check.noArgument("third, its own package", () -> x.conflict(0, 0, 0));
    Check.is("the tape stays", 1, x::wipe);
    Check.noArgument("third, without a range", () -> x.conflict(0, 0, 1));
  }

  private static void provided() {
    Portsmith x = new Portsmith();
    Check.version(x, 0, 1000);
    x.type('x', 1);
    Check.is("first", 1, () -> x.provide(0, 0, 1, 0));
    Check.noPlace("package 6", () -> x.provide(6, 0, 1, 0));
    Check.noPlace("package -1", () -> x.provide(-1, 0, 1, 0));
    Check.noPlace("version 1", () -> x.provide(0, 1, 1, 0));
    Check.noPlace("version -1", () -> x.provide(0, -1, 1, 0));
    Check.noPlace("other 6", () -> x.provide(0, 0, 6, 100000));
    Check.noPlace("other -1", () -> x.provide(0, 0, -1, 0));
    Check.noArgument("its own package", () -> x.provide(0, 0, 0, 0));
    Check.noArgument("number -1", () -> x.provide(0, 0, 1, -1));
    Check.noArgument("number 100000", () -> x.provide(0, 0, 1, 100000));
    Check.is("second", 2, () -> x.provide(0, 0, 1, 99999));
    Check.noState("third", () -> x.provide(0, 0, 2, 0));
    Check.noArgument("third, out of range", () -> x.provide(0, 0, 2, 100000));
    Check.is("the tape is not looked at", 1, x::wipe);
  }

  private static void yanked() {
    Portsmith x = new Portsmith();
    Check.version(x, 3, 1000);
    Check.holds("at first", false, () -> x.yank(3, 0, true));
    Check.holds("was", true, () -> x.yank(3, 0, true));
    Check.holds("was still", true, () -> x.yank(3, 0, false));
    Check.holds("was not", false, () -> x.yank(3, 0, false));
    Check.noPlace("package 6", () -> x.yank(6, 0, true) ? 1 : 0);
    Check.noPlace("package -1", () -> x.yank(-1, 0, true) ? 1 : 0);
    Check.noPlace("version 1", () -> x.yank(3, 1, true) ? 1 : 0);
    Check.noPlace("version -1", () -> x.yank(3, -1, true) ? 1 : 0);
  }

  /** The numbers are told from below to above: each is below all behind it. */
  private static void order(int scheme, int... numbers) {
    for (int i = 0; i < numbers.length; i++) {
      for (int k = 0; k < numbers.length; k++) {
        Portsmith x = new Portsmith();
        x.scheme(2, scheme);
        x.version(2, numbers[i], 0, 0, 0);
        x.version(2, numbers[k], 0, 0, 0);
        // Alike ones: the one with the greater number is above.
        int want = i == k ? -1 : Integer.compare(i, k);
        String what = "scheme " + scheme + ": " + numbers[i] + " to " + numbers[k];
        Check.is(what, want, () -> x.compare(2, 0, 1));
        Check.is(what + " turned", -want, () -> x.compare(2, 1, 0));
        Check.is(what + " the same", 0, () -> x.compare(2, 1, 1));
      }
    }
  }

  private static void orders() {
    order(Portsmith.NUMBERS, 1, 9, 0, 12, 10, 90, 100, 990, 1001, 51002, 1009, 1000, 1010, 9990);
    order(Portsmith.EPOCHS, 1, 9, 0, 10, 100, 1000, 9990, 10001, 10000, 19990, 20000, 90000);
    order(Portsmith.LAST, 1, 9, 0, 100, 900, 1001, 1000, 1900, 2000, 9900, 11, 10, 110, 1010, 20);
    Portsmith x = new Portsmith();
    x.version(0, 15000, 0, 0, 0);
    x.version(0, 5000, 0, 0, 0);
    Check.is("by NUMBERS the epoch counts for nothing", -1, () -> x.compare(0, 0, 1));
    x.scheme(0, Portsmith.EPOCHS);
    Check.is("by EPOCHS it does", 1, () -> x.compare(0, 0, 1));
    x.scheme(0, Portsmith.LAST);
    Check.is("by LAST it does not", -1, () -> x.compare(0, 0, 1));
    Check.noPlace("package 6", () -> x.compare(6, 0, 0));
    Check.noPlace("package -1", () -> x.compare(-1, 0, 0));
    Check.noPlace("one 2", () -> x.compare(0, 2, 0));
    Check.noPlace("one -1", () -> x.compare(0, -1, 0));
    Check.noPlace("other 2", () -> x.compare(0, 0, 2));
    Check.noPlace("other -1", () -> x.compare(0, 0, -1));
  }

  private static void within(int scheme, String range, int number, boolean want) {
    Portsmith x = new Portsmith();
    x.scheme(4, scheme);
    x.version(4, number, 0, 0, 0);
    Check.tape(x, range);
    Check.is("scheme " + scheme + ": " + number + " in " + range, want ? 1 : 0, () -> x.within(4));
    Check.is("the tape stays", range.length(), x::wipe);
  }

  private static void in(String range, int... numbers) {
    for (int number : numbers) {
      within(Portsmith.NUMBERS, range, number, true);
    }
  }

  private static void out(String range, int... numbers) {
    for (int number : numbers) {
      within(Portsmith.NUMBERS, range, number, false);
    }
  }

  private static void ranges() {
    in("*", 0, 1000, 99990);
    out("*", 1, 1009);
    in("=1.2.3", 1230, 51230);
    out("=1.2.3", 1231, 1220, 1240);
    in("=1", 1000);
    out("=1", 1100, 1010, 1001);
    in("=1.2-0", 1200);
    in("=1-3", 1003);
    out("=1-3", 1000, 1002, 1004, 11003);
    in(">1.2", 1210, 2000);
    out(">1.2", 1200, 1190, 1201);
    in("<1.2", 1190, 0);
    out("<1.2", 1200, 1201, 1191);
    in(">=1.2", 1200, 9000);
    out(">=1.2", 1190, 1300 + 1);
    in("<=1.2", 1200, 1190);
    out("<=1.2", 1210);
    in(">=1.2-2", 1202, 1203, 1200, 5000);
    out(">=1.2-2", 1201, 1212, 2203);
    in("<2-5", 2004, 1990);
    out("<2-5", 2005, 2000, 1994);
    in("^1.2.3", 1230, 1240, 1990);
    out("^1.2.3", 1220, 2000, 2001, 1231);
    in("^1.2.3-4", 1234, 1230, 1990);
    out("^1.2.3-4", 1233, 2000, 2004);
    in("^9.1", 9100, 9990);
    out("^9.1", 9090, 0);
    in("^0.2.3", 230, 290);
    out("^0.2.3", 220, 300, 1000);
    in("^0.1.2", 120, 190);
    out("^0.1.2", 110, 200);
    in("^0.9.9", 990);
    out("^0.9.9", 980, 1000);
    in("^0.0.3", 30);
    out("^0.0.3", 20, 40);
    in("^0.0.9", 90);
    out("^0.0.9", 100);
    in("^0", 0);
    out("^0", 10);
    in("~1", 1000, 1990);
    out("~1", 990, 2000);
    in("~9", 9990);
    in("~1.2", 1200, 1290);
    out("~1.2", 1190, 1300);
    in("~1.9", 1990);
    out("~1.9", 2000);
    in("~1.2.3", 1230, 1290);
    out("~1.2.3", 1220, 1300);
    in("~1-3", 1003, 1990);
    out("~1-3", 1002, 2000);
    in("~0", 0, 990);
    out("~0", 1000);
    in(">=1,<2", 1000, 1990);
    out(">=1,<2", 990, 2000);
    in(">=1-2,<2", 1002);
    in("<2,>=1-2", 1002);
    in("<2,>0-3|=5", 4, 0, 1000, 5000);
    out("<2,>0-3|=5", 3, 2000, 1004);
    out("<2,>=1-2|=5", 1001, 5001);
    in("=1|=2|=3", 1000, 2000, 3000);
    out("=1|=2|=3", 4000);
    in("=1|*", 7000);
    out("=1|*", 7001);
    in("*|=7-1", 7001);
    out("=7-2|>=6,<8", 7001);
    out("=7-2,=1|>=6,<8", 7001, 7002);
    // The one that tells the preview stands in another part: that does not count.
    out(">=7-1,<1|>=6,<8", 7002);
    out("<7-5|>7-4", 8001);
    in("<7-5|>7-4", 7001, 7006);
  }

  private static void rangesByOtherSchemes() {
    within(Portsmith.EPOCHS, "=1", 1000, true);
    within(Portsmith.EPOCHS, "=1", 11000, false);
    within(Portsmith.EPOCHS, "=1:1", 11000, true);
    within(Portsmith.EPOCHS, "^1:1", 11990, true);
    within(Portsmith.EPOCHS, "^1:1", 12000, false);
    within(Portsmith.EPOCHS, "^1:9", 19990, true);
    within(Portsmith.EPOCHS, "^1:9", 20000, false);
    within(Portsmith.EPOCHS, ">=1", 10000, true);
    within(Portsmith.EPOCHS, "<1:0", 9990, true);
    within(Portsmith.EPOCHS, "~1:2.3", 12390, true);
    within(Portsmith.EPOCHS, "~1:2.3", 2390, false);
    within(Portsmith.EPOCHS, ">=1:0-1", 10001, true);
    // By NUMBERS the preview is alike, but the test tells another epoch.
    within(Portsmith.NUMBERS, ">=1:0-1", 1, false);
    within(Portsmith.NUMBERS, ">=1:0-1", 10001, true);
    within(Portsmith.LAST, ">1.2.3", 30, false);
    within(Portsmith.LAST, ">1.2.3", 40, true);
    within(Portsmith.LAST, ">1.2.3", 1330, true);
    within(Portsmith.LAST, "^1.2.3", 1230, false);
    within(Portsmith.LAST, "^1.2", 1200, true);
    within(Portsmith.LAST, "^1.2", 1900, true);
    within(Portsmith.LAST, "^1.2", 1210, false);
    within(Portsmith.LAST, "^0.0.3", 30, true);
    within(Portsmith.LAST, "^0.0.3", 9930, true);
    within(Portsmith.LAST, "^0.0.3", 40, false);
    within(Portsmith.LAST, "=3:1.2", 1200, true);
    Portsmith x = new Portsmith();
    x.version(0, 1000, 0, 0, 0);
    x.version(0, 2000, 0, 0, 0);
    x.version(0, 3000, 0, 0, 0);
    x.version(0, 3001, 0, 0, 0);
    Check.tape(x, ">1");
    Check.is("a bit for each", 6, () -> x.within(0));
    Check.is("none of another", 0, () -> x.within(1));
  }

  private static void withinRefuses() {
    Portsmith x = new Portsmith();
    Check.noArgument("an empty tape", () -> x.within(0));
    x.type('=', 1);
    Check.noArgument("a fault", () -> x.within(5));
    Check.noPlace("package 6, with a fault", () -> x.within(6));
    Check.noPlace("package -1", () -> x.within(-1));
    Check.is("the tape stays", 1, x::wipe);
  }
}
