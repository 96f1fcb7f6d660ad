import java.util.ArrayList;
import java.util.List;

/**
 * Promises 6, 11 and 12 at the ends of the digits 0 to 9: versions in order by each scheme, and
 * each kind of test, with all that its version may tell, against the versions near its bounds. What
 * is due is worked out here once more, from the words of the document.
 */
public final class DigitTest {
  private static final String[] KINDS = {"=", ">", "<", ">=", "<=", "^", "~"};
  private static final int[] TOLD = {0, 1, 8, 9};
  private static final int[] NEAR = {0, 1, 2, 8, 9};

  /** The five digits of a version, or of a next one, which may have a 10. */
  private record Version(int epoch, int major, int minor, int patch, int preview) {
    int number() {
      return (((epoch * 10 + major) * 10 + minor) * 10 + patch) * 10 + preview;
    }

    /** The one of two versions with the greater key is above by the scheme. */
    long key(int scheme) {
      long behind = preview == 0 ? 99 : preview;
      switch (scheme) {
        case Portsmith.NUMBERS:
          return key(0, major, minor, patch) + behind;
        case Portsmith.EPOCHS:
          return key(epoch, major, minor, patch) + behind;
        default:
          return key(0, patch, major, minor) + behind;
      }
    }

    private static long key(long first, long second, long third, long fourth) {
      return ((first * 100 + second) * 100 + third) * 10000 + fourth * 100;
    }
  }

  /** A test: how many of major, minor and patch its text tells, and what it is about. */
  private record Test(int kind, int parts, String text, Version version) {
    boolean holds(int scheme, Version candidate) {
      return (candidate.preview == 0 || tellsPreviewOf(candidate)) && isWithin(scheme, candidate);
    }

    boolean tellsPreviewOf(Version candidate) {
      return version.preview != 0 && candidate.epoch == version.epoch
          && candidate.major == version.major && candidate.minor == version.minor
          && candidate.patch == version.patch;
    }

    boolean isWithin(int scheme, Version candidate) {
      int order = Long.compare(candidate.key(scheme), version.key(scheme));
      switch (kind) {
        case 0: return order == 0;
        case 1: return order > 0;
        case 2: return order < 0;
        case 3: return order >= 0;
        case 4: return order <= 0;
        default: return order >= 0 && candidate.key(scheme) < next().key(scheme);
      }
    }

    private Version next() {
      Version v = version;
      if (kind == 5 && v.major == 0 && v.minor == 0) {
        return new Version(v.epoch, 0, 0, v.patch + 1, 0);
      }
      if (kind == 5 ? v.major == 0 : parts > 1) {
        return new Version(v.epoch, v.major, v.minor + 1, 0, 0);
      }
      return new Version(v.epoch, v.major + 1, 0, 0, 0);
    }
  }

  public static void main(String[] args) {
    orders();
    numbers();
    previewsOfNextOnes();
    List<Test> tests = tests();
    for (int scheme = Portsmith.NUMBERS; scheme <= Portsmith.LAST; scheme++) {
      ranges(scheme, tests);
    }
    Check.end();
  }

  private static void orders() {
    List<Version> versions = versions(new int[] {0, 1, 9}, new int[] {0, 1, 9}, new int[] {0, 1, 2, 3, 9});
    for (Version one : versions) {
      for (Version other : versions) {
        Portsmith x = new Portsmith();
        for (int scheme = 0; scheme < 3; scheme++) {
          x.scheme(scheme, scheme);
          x.version(scheme, one.number(), 0, 0, 0);
          x.version(scheme, other.number(), 0, 0, 0);
          int order = Long.compare(one.key(scheme), other.key(scheme));
          int pack = scheme;
          Check.is("scheme " + scheme + ": " + one + " to " + other, order == 0 ? -1 : order,
              () -> x.compare(pack, 0, 1));
        }
      }
    }
  }

  /** The numbers at which a digit wraps around, and the epoch 9 by all kinds of ranges. */
  private static void numbers() {
    for (int scheme = 0; scheme < 3; scheme++) {
      int[] numbers = {0, 1, 9, 10, 99, 100, 999, 1000, 9999, 10000, 99990, 99999};
      for (int number : numbers) {
        Portsmith x = new Portsmith();
        x.scheme(0, scheme);
        x.version(0, number, 0, 0, 0);
        String five = String.format("%05d", number);
        Check.tape(x, "=" + five.charAt(0) + ":" + five.charAt(1) + "." + five.charAt(2) + "."
            + five.charAt(3) + "-" + five.charAt(4));
        Check.is("alike its own number: " + number, 1, () -> x.within(0));
        Check.tape(x, "*");
        Check.is("all releases: " + number, number % 10 == 0 ? 1 : 0, () -> x.within(0));
        Check.tape(x, ">=0|<=9:9.9.9");
        Check.is("from 0 or up to the last: " + number, number % 10 == 0 ? 1 : 0, () -> x.within(0));
      }
    }
  }

  /**
   * A next one has no preview: so its own previews are below it. They are held by a part of which
   * another test tells one of them.
   */
  private static void previewsOfNextOnes() {
    for (Test test : tests()) {
      Version of = test.version;
      if (test.kind < 5 || of.preview == 1) {
        continue;
      }
      Version[] nextOnes = {new Version(of.epoch, of.major + 1, 0, 0, 0),
          new Version(of.epoch, of.major, of.minor + 1, 0, 0),
          new Version(of.epoch, of.major, of.minor, of.patch + 1, 0)};
      for (Version next : nextOnes) {
        if (next.major < 10 && next.minor < 10 && next.patch < 10) {
          previewsOf(next, test);
        }
      }
    }
  }

  private static void previewsOf(Version next, Test test) {
    Version last = new Version(next.epoch, next.major, next.minor, next.patch, 9);
    Version first = new Version(next.epoch, next.major, next.minor, next.patch, 1);
    Test other = new Test(3, 3, text(3, 3, first), first);
    Version[] versions = {next, first, last};
    Portsmith x = new Portsmith();
    for (int scheme = 0; scheme < 3; scheme++) {
      x.scheme(scheme, scheme);
      int due = 0;
      for (int i = 0; i < versions.length; i++) {
        x.version(scheme, versions[i].number(), 0, 0, 0);
        boolean isWithin = test.isWithin(scheme, versions[i]) && other.isWithin(scheme, versions[i]);
        boolean isTold = versions[i].preview == 0 || test.tellsPreviewOf(versions[i])
            || other.tellsPreviewOf(versions[i]);
        due |= isWithin && isTold ? 1 << i : 0;
      }
      Check.tape(x, test.text + "," + other.text);
      int pack = scheme;
      Check.is("scheme " + scheme + ": " + test.text + "," + other.text, due, () -> x.within(pack));
    }
  }

  private static List<Version> versions(int[] epochs, int[] numbers, int[] previews) {
    List<Version> list = new ArrayList<>();
    for (int epoch : epochs) {
      for (int major : numbers) {
        for (int minor : numbers) {
          for (int patch : numbers) {
            for (int preview : previews) {
              list.add(new Version(epoch, major, minor, patch, preview));
            }
          }
        }
      }
    }
    return list;
  }

  private static List<Test> tests() {
    List<Test> list = new ArrayList<>();
    for (int kind = 0; kind < KINDS.length; kind++) {
      for (Version version : versions(new int[] {0, 1, 9}, TOLD, new int[] {0, 1, 9})) {
        // What is not told is 0.
        int fewest = version.patch != 0 ? 3 : version.minor != 0 ? 2 : 1;
        for (int parts = fewest; parts <= 3; parts++) {
          list.add(new Test(kind, parts, text(kind, parts, version), version));
        }
      }
    }
    return list;
  }

  private static String text(int kind, int parts, Version version) {
    StringBuilder text = new StringBuilder(KINDS[kind]);
    // The epoch 0 is told, as none is: both are told here, and so is the preview 0 below.
    if (version.epoch != 0 || parts == 3) {
      text.append(version.epoch).append(':');
    }
    text.append(version.major);
    if (parts > 1) {
      text.append('.').append(version.minor);
    }
    if (parts > 2) {
      text.append('.').append(version.patch);
    }
    if (version.preview != 0 || parts == 2) {
      text.append('-').append(version.preview);
    }
    return text.toString();
  }

  /** Each object has 24 versions, and is asked of 40 texts. */
  private static void ranges(int scheme, List<Test> tests) {
    List<Version> versions = versions(new int[] {0, 1, 9}, NEAR, new int[] {0, 1, 8, 9});
    for (int first = 0; first < versions.size(); first += 24) {
      List<Version> some = versions.subList(first, Math.min(first + 24, versions.size()));
      for (int from = 0; from < tests.size(); from += 40) {
        ranges(scheme, some, tests.subList(from, Math.min(from + 40, tests.size())));
      }
    }
  }

  private static void ranges(int scheme, List<Version> versions, List<Test> tests) {
    Portsmith x = new Portsmith();
    for (int pack = 0; pack < 6; pack++) {
      x.scheme(pack, scheme);
    }
    for (int i = 0; i < versions.size(); i++) {
      x.version(i / 4, versions.get(i).number(), 0, 0, 0);
    }
    for (Test test : tests) {
      Check.tape(x, test.text);
      int due = 0;
      int got = 0;
      for (int pack = 0; pack < 6; pack++) {
        got |= x.within(pack) << 4 * pack;
      }
      for (int i = 0; i < versions.size(); i++) {
        due |= test.holds(scheme, versions.get(i)) ? 1 << i : 0;
      }
      if (got != due) {
        Check.same("scheme " + scheme + ": " + test.text + " of " + versions, "" + due, "" + got);
      }
    }
    Check.same("a part of the ranges", "", "");
  }
}
