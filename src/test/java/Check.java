/** Counts what is not as due, for the tests; and types texts onto a tape. */
final class Check {
  interface Call {
    long answer();
  }

  interface Question {
    boolean answer();
  }

  private static int asked = 0;
  private static int wrong = 0;

  private Check() {
  }

  /** The answer of a call as a text: its number, or the name of the exception that it throws. */
  static String told(Call call) {
    try {
      return Long.toString(call.answer());
    } catch (RuntimeException e) {
      return e.getClass().getSimpleName();
    }
  }

  static void same(String what, String want, String got) {
    asked++;
    if (!want.equals(got)) {
      wrong++;
      System.out.println(what + ": answered " + got + ", due is " + want);
    }
  }

  static void is(String what, long want, Call call) {
    same(what, Long.toString(want), told(call));
  }

  static void holds(String what, boolean want, Question question) {
    is(what, want ? 1 : 0, () -> question.answer() ? 1 : 0);
  }

  static void noPlace(String what, Call call) {
    same(what, "IndexOutOfBoundsException", told(call));
  }

  static void noArgument(String what, Call call) {
    same(what, "IllegalArgumentException", told(call));
  }

  static void noState(String what, Call call) {
    same(what, "IllegalStateException", told(call));
  }

  static long packed(String text) {
    long characters = 0;
    for (int i = text.length() - 1; i >= 0; i--) {
      characters = characters << 8 | text.charAt(i);
    }
    return characters;
  }

  /** Puts a text onto the tape, in place of what it had. */
  static void tape(Portsmith x, String text) {
    x.wipe();
    for (int i = 0; i < text.length(); i += 8) {
      String piece = text.substring(i, Math.min(text.length(), i + 8));
      x.type(packed(piece), piece.length());
    }
  }

  static int wish(Portsmith x, int pack, String range, int features) {
    tape(x, range);
    return x.wish(pack, features);
  }

  static int need(Portsmith x, int pack, int version, int other, String range) {
    tape(x, range);
    return x.need(pack, version, other, 0, 7, Portsmith.NONE);
  }

  static int conflict(Portsmith x, int pack, int version, int other, String range) {
    tape(x, range);
    return x.conflict(pack, version, other);
  }

  static int version(Portsmith x, int pack, int number) {
    return x.version(pack, number, 0, 0, 0);
  }

  static void end() {
    System.out.println(asked + " asked, " + wrong + " wrong");
    if (wrong != 0 || asked == 0) {
      System.exit(1);
    }
  }
}
