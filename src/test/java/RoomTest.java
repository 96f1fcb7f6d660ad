/**
 * What there may be at most, from none of it to all that there is room for: versions, needs,
 * conflicts, what is provided, wishes, files, advisories, diversions, generations, minutes; each
 * one counts, and one more is refused.
 */
public final class RoomTest {
  private static final int NONE = Portsmith.NONE;

  public static void main(String[] args) {
    versions();
    needs();
    conflicts();
    provided();
    needsOfEach();
    conflictsOfEach();
    features();
    platforms();
    licences();
    wishes();
    storiesOfSome();
    storyOfAll();
    choices();
    advisories();
    severities();
    thresholds();
    firstRole();
    indexNumbers();
    lastMinute();
    contents();
    files();
    diversions();
    generations();
    generationsThatRun();
    Check.end();
  }

  /** An object with one version of each package but one (or NONE), which have all features. */
  private static Portsmith without(int missing) {
    Portsmith x = new Portsmith();
    for (int pack = 0; pack < 6; pack++) {
      if (pack != missing) {
        x.version(pack, 1000, 15, 0, 0);
      }
    }
    return x;
  }

  // Promises 1, 6, 11, 12 and 17.
  private static void versions() {
    for (int pack = 0; pack < 6; pack++) {
      Portsmith x = new Portsmith();
      int of = pack;
      Check.wish(x, pack, "*", 0);
      for (int count = 0; count <= 4; count++) {
        String what = count + " versions of " + pack;
        Check.tape(x, "*");
        Check.is(what, (1 << count) - 1, () -> x.within(of));
        Check.is(what + ", choices", count, () -> x.closures(0));
        int last = count - 1;
        x.solve(0, NONE);
        Check.is(what + ", the last one is chosen", last, () -> x.proposed(0, of));
        for (int version = -1; version <= count; version++) {
          int order = Integer.compare(version, last);
          int one = version;
          Check.same(what + ", order of " + version,
              version >= 0 && version < count ? "" + order : Refused.PLACE,
              Check.told(() -> x.compare(of, one, last)));
        }
        int due = count;
        if (count < 4) {
          Check.is("one more", due, () -> x.version(of, 1000, 0, 0, 0));
        }
      }
      Check.noState("a fifth", () -> x.version(of, 1000, 0, 0, 0));
      Check.tape(x, "*");
      Check.is("of the next one there is none", 0, () -> x.within((of + 1) % 6));
    }
  }

  // Promise 7: each need must be met.
  private static void needs() {
    for (int count = 0; count <= 4; count++) {
      for (int missing = 1; missing <= 5; missing++) {
        Portsmith x = without(missing);
        for (int other = 1; other <= count; other++) {
          int of = other;
          Check.is("needs", other, () -> Check.need(x, 0, 0, of, "*"));
        }
        Check.wish(x, 0, "*", 0);
        boolean isMet = missing > count;
        String what = count + " needs, without " + missing;
        Check.is(what, isMet ? 1 : 0, () -> x.closures(0));
        Check.is(what + ", the story", isMet ? NONE : 1, () -> x.story(0));
        x.solve(0, NONE);
        if (isMet) {
          int due = count + 1;
          Check.is(what + ", are locked", due, () -> x.lock(0));
        } else {
          Check.noState(what + ", nothing to lock", () -> x.lock(0));
        }
        if (count == 4) {
          Check.noState("a fifth need", () -> Check.need(x, 0, 0, 5, "*"));
          Check.is(what + ", as before", isMet ? 1 : 0, () -> x.closures(0));
        }
      }
    }
  }

  // Promise 8: each conflict holds.
  private static void conflicts() {
    for (int count = 0; count <= 2; count++) {
      for (int other = 1; other <= 5; other++) {
        Portsmith x = without(NONE);
        for (int of = 1; of <= count; of++) {
          int against = of;
          Check.is("conflicts", of, () -> Check.conflict(x, 0, 0, against, "*"));
        }
        if (count == 2) {
          Check.noState("a third conflict", () -> Check.conflict(x, 0, 0, 3, "*"));
        }
        Check.wish(x, 0, "*", 0);
        Check.wish(x, other, "*", 0);
        Check.is(count + " conflicts, with " + other, other <= count ? 0 : 1, () -> x.closures(0));
      }
    }
  }

  // Promise 9: each thing is provided.
  private static void provided() {
    for (int count = 0; count <= 2; count++) {
      for (int other = 1; other <= 5; other++) {
        Portsmith x = without(other);
        for (int of = 1; of <= count; of++) {
          int as = of;
          Check.is("provided", of, () -> x.provide(0, 0, as, 1000));
        }
        if (count == 2) {
          Check.noState("a third thing", () -> x.provide(0, 0, 3, 1000));
        }
        Check.wish(x, other, "*", 0);
        Check.is(count + " provided, of " + other, other <= count ? 1 : 0, () -> x.closures(0));
      }
    }
  }

  /** An object with four versions of each package, the majors 0 to 3, with a 1 as their epoch. */
  private static Portsmith withFour() {
    Portsmith x = new Portsmith();
    for (int version = 0; version < 4; version++) {
      for (int pack = 0; pack < 6; pack++) {
        x.version(pack, 10000 + 1000 * version, 0, 0, 0);
      }
    }
    return x;
  }

  // Promise 7: a need of any version, of any version of another package.
  private static void needsOfEach() {
    for (int one = 0; one < 24; one++) {
      for (int other = 0; other < 24; other++) {
        int pack = one / 4;
        int of = other / 4;
        if (pack == of) {
          continue;
        }
        Portsmith x = withFour();
        Check.need(x, pack, one % 4, of, "=" + other % 4);
        Check.wish(x, pack, "*", 0);
        Check.is("each of four versions", 4, () -> x.closures(0));
        x.unwish();
        Check.wish(x, pack, "=" + one % 4, 0);
        Check.is("nothing was locked", 0, () -> x.solve(0, NONE));
        Check.is("two are locked", 2, () -> x.lock(0));
        int due = other % 4;
        Check.is("the one that is needed", due, () -> x.locked(0, of));
        Check.holds("that holds", true, () -> x.holds(0));
      }
    }
  }

  // Promises 5 and 8: a conflict of any version, with any version of another package.
  private static void conflictsOfEach() {
    for (int one = 0; one < 24; one++) {
      for (int other = 0; other < 24; other++) {
        int pack = one / 4;
        int of = other / 4;
        if (pack == of) {
          continue;
        }
        Portsmith x = withFour();
        Check.wish(x, pack, "=" + one % 4, 0);
        Check.wish(x, of, "=" + other % 4, 0);
        Check.is("without a conflict", 0, () -> x.solve(0, NONE));
        x.lock(0);
        Check.conflict(x, pack, one % 4, of, "=" + other % 4);
        Check.is("with a conflict", 0, () -> x.closures(0));
        Check.holds("the lock holds no more", false, () -> x.holds(0));
        x.scheme(of, Portsmith.EPOCHS);
        x.unwish();
        Check.wish(x, pack, "=" + one % 4, 0);
        Check.wish(x, of, "=1:" + other % 4, 0);
        Check.is("it is of another epoch", 1, () -> x.closures(0));
        Check.holds("the lock holds again", true, () -> x.holds(0));
        x.unwish();
        Check.wish(x, pack, "*", 0);
        Check.wish(x, of, "*", 0);
        Check.is("each of four and four", 16, () -> x.closures(0));
        x.scheme(of, Portsmith.LAST);
        Check.is("each but one", 15, () -> x.closures(0));
      }
    }
  }

  // Promises 7 and 13: a need is for one feature of one package, and only that switches it on.
  private static void features() {
    for (int place = 0; place < 24; place++) {
      for (int wished = 0; wished < 24; wished++) {
        int pack = place / 4;
        int of = wished / 4;
        Portsmith x = without(NONE);
        Check.tape(x, "=9");
        x.need(pack, 0, (pack + 1) % 6, 0, 7, 1 << place % 4);
        Check.wish(x, pack, "*", 0);
        Check.wish(x, of, "*", 1 << wished % 4);
        Check.is("feature " + (1 << wished % 4) + " of " + of + " is on, for " + (1 << place % 4)
            + " of " + pack, place == wished ? 0 : 1, () -> x.closures(0));
      }
    }
    for (int has = 0; has < 16; has++) {
      for (int asked = 0; asked < 16; asked++) {
        Portsmith x = new Portsmith();
        x.version(5, 1000, has, 0, 0);
        Check.wish(x, 5, "*", asked);
        Check.is(asked + " of " + has, (asked & ~has) == 0 ? 1 : 0, () -> x.closures(0));
      }
    }
  }

  // Promise 7: a need is for the platforms that it names.
  private static void platforms() {
    for (int platforms = 1; platforms <= 7; platforms++) {
      Portsmith x = without(NONE);
      Check.tape(x, "=9");
      x.need(0, 0, 1, 0, platforms, NONE);
      Check.wish(x, 0, "*", 0);
      for (int platform = 0; platform < 3; platform++) {
        int on = platform;
        boolean isNamed = (platforms >> platform & 1) != 0;
        Check.is(platforms + " names " + platform, isNamed ? 0 : 1, () -> x.closures(on));
      }
    }
  }

  // Promise 15.
  private static void licences() {
    for (int licences = 0; licences < 16; licences++) {
      Portsmith x = new Portsmith();
      for (int licence = 0; licence < 4; licence++) {
        x.version(licence, 1000, 0, licence, 0);
      }
      x.policy(licences);
      Check.is("nothing wished", 1, () -> x.closures(0));
      for (int licence = 0; licence < 4; licence++) {
        x.unwish();
        Check.wish(x, licence, "*", 0);
        boolean isIn = (licences >> licence & 1) != 0;
        Check.is(licence + " in " + licences, isIn ? 1 : 0, () -> x.closures(0));
      }
    }
  }

  // Promises 13, 14, 16, 18 and 19: each wish must be met.
  private static void wishes() {
    for (int count = 0; count <= 4; count++) {
      for (int missing = 0; missing <= 5; missing++) {
        Portsmith x = without(missing);
        for (int pack = 0; pack < count; pack++) {
          int of = pack;
          Check.is("wishes", pack + 1, () -> Check.wish(x, of, "*", 0));
        }
        if (count == 4) {
          Check.noState("a fifth wish", () -> Check.wish(x, 5, "*", 0));
        }
        boolean isMet = missing >= count;
        String what = count + " wishes, without " + missing;
        Check.is(what, isMet ? 1 : 0, () -> x.closures(0));
        Check.is(what + ", the story", isMet ? NONE : 1 << missing, () -> x.story(0));
        Check.is(what + ", changes", isMet ? 0 : NONE, () -> x.solve(0, NONE));
        int had = count;
        Check.is(what + ", dropped", had, x::unwish);
        Check.is(what + ", the story of none", NONE, () -> x.story(0));
        Check.is(what + ", one closure without any", 1, () -> x.closures(0));
        Check.is(what + ", a solution without any", 0, () -> x.solve(0, NONE));
      }
    }
  }

  // Promise 19: the fewest wishes, then the least bits.
  private static void storiesOfSome() {
    for (int wishes = 2; wishes <= 4; wishes++) {
      for (int pair = 1; pair < 1 << wishes; pair++) {
        if (Integer.bitCount(pair) == 2) {
          int due = pair;
          Portsmith x = withPair(wishes, pair);
          Check.is("the two of " + wishes + " that rule each other out", due, () -> x.story(0));
        }
      }
    }
    Portsmith x = without(NONE);
    x.version(5, 2000, 0, 0, 0);
    x.version(4, 2000, 0, 0, 0);
    Check.wish(x, 5, "=1", 0);
    Check.wish(x, 4, "=1", 0);
    Check.wish(x, 4, "=2", 0);
    Check.wish(x, 5, "=2", 0);
    Check.is("of 9 and 6 the least bits", 6, () -> x.story(0));
    x.unwish();
    Check.wish(x, 5, "=1", 0);
    Check.wish(x, 5, "=2", 0);
    Check.wish(x, 4, "=9", 0);
    Check.is("one goes ahead of two with less bits", 4, () -> x.story(0));
  }

  /** So many wishes, of which two are of two versions of the package 5. */
  private static Portsmith withPair(int wishes, int pair) {
    Portsmith x = without(NONE);
    x.version(5, 2000, 0, 0, 0);
    String range = "=1";
    for (int wish = 0; wish < wishes; wish++) {
      if ((pair >> wish & 1) != 0) {
        Check.wish(x, 5, range, 0);
        range = "=2";
      } else {
        Check.wish(x, wish, "*", 0);
      }
    }
    return x;
  }

  /** Four wishes, of which each rules out another version of 0, that each needs. */
  private static void storyOfAll() {
    for (int versions = 1; versions <= 4; versions++) {
      Portsmith x = new Portsmith();
      for (int version = 0; version < versions; version++) {
        x.version(0, 1000 * version, 0, 0, 0);
      }
      for (int pack = 1; pack <= 4; pack++) {
        Check.version(x, pack, 1000);
        Check.need(x, pack, 0, 0, "*");
        Check.conflict(x, pack, 0, 0, "=" + (pack - 1));
        Check.wish(x, pack, "*", 0);
      }
      int due = (1 << versions) - 1;
      Check.is("as many wishes as versions", due, () -> x.story(0));
    }
  }

  // Promises 16 and 18: from the empty choice to one of all six packages.
  private static void choices() {
    Portsmith x = without(NONE);
    for (int pack = 0; pack < 5; pack++) {
      Check.need(x, pack, 0, pack + 1, "*");
    }
    for (int pack = 5; pack >= 0; pack--) {
      x.unwish();
      Check.wish(x, pack, "*", 0);
      Check.is("one closure", 1, () -> x.closures(2));
      Check.is("it is the solution", 0, () -> x.solve(2, NONE));
      int due = 6 - pack;
      Check.is("with " + due + " packages", due, () -> x.lock(2));
      Check.holds("the lock holds", true, () -> x.holds(2));
    }
    x.unwish();
    Check.is("all six go", 6, () -> x.solve(2, NONE));
    Check.is("but one, that does not count", 5, () -> x.solve(2, 0));
    Check.is("but the last one", 5, () -> x.solve(2, 5));
    Check.is("none is locked", 0, () -> x.lock(2));
    Check.is("nothing to change", 0, () -> x.solve(2, 0));
  }

  // Promises 23 and 24.
  private static void advisories() {
    Portsmith x = new Portsmith();
    for (int pack = 0; pack < 6; pack++) {
      Check.version(x, pack, 1000);
      if (pack > 0) {
        Check.need(x, pack - 1, 0, pack, "*");
      }
    }
    Check.wish(x, 0, "*", 0);
    x.solve(1, NONE);
    x.lock(1);
    for (int pack = 0; pack < 6; pack++) {
      int due = (1 << pack) - 1;
      Check.is(pack + " advisories", due, () -> x.advised(1, 1));
      Check.tape(x, "*");
      int of = pack;
      Check.is("one more", pack + 1, () -> x.advise(of, 1));
    }
    Check.is("six advisories", 63, () -> x.advised(1, 1));
    Check.tape(x, "*");
    Check.noState("a seventh", () -> x.advise(0, 9));
    Check.is("it does not count", 0, () -> x.advised(1, 2));
  }

  private static void severities() {
    for (int severity = 1; severity <= 9; severity++) {
      Portsmith x = new Portsmith();
      Check.version(x, 5, 1000);
      Check.wish(x, 5, "*", 0);
      x.solve(0, NONE);
      x.lock(0);
      Check.tape(x, "*");
      x.advise(5, severity);
      for (int asked = 1; asked <= 9; asked++) {
        int least = asked;
        Check.is(severity + " is " + asked + " or more", severity >= asked ? 32 : 0,
            () -> x.advised(0, least));
      }
    }
  }

  // Promise 26: as many keys as the threshold, of the old role and of the new one; not one fewer.
  private static void thresholds() {
    for (int old = 1; old <= 5; old++) {
      for (int threshold = 1; threshold <= 5; threshold++) {
        for (int signed = 0; signed < 32; signed++) {
          Portsmith x = new Portsmith();
          int first = old;
          int second = threshold;
          int by = signed;
          Check.holds("the first role", true, () -> x.role(31, first, 31));
          boolean isDue = Integer.bitCount(signed) >= Math.max(old, threshold);
          Check.holds(old + ", then " + threshold + ", by " + signed, isDue,
              () -> x.role(31, second, by));
          int asked = isDue ? threshold : old;
          boolean isEnough = Integer.bitCount(signed) >= asked;
          Check.is("it is asked for by indexes", isEnough ? 0 : 1, () -> x.index(0, 1, by));
        }
      }
    }
  }

  // Promises 1, 26 and 27: at first the key 0 alone.
  private static void firstRole() {
    for (int signed = 0; signed < 32; signed++) {
      Portsmith x = new Portsmith();
      int by = signed;
      boolean hasFirst = signed % 2 == 1;
      Check.is("an index by " + signed, hasFirst ? 0 : 1, () -> x.index(0, 1, by));
      Check.holds("a role by " + signed, signed >= 17 && hasFirst, () -> x.role(16, 1, by));
    }
  }

  // Promise 27: at first the number is 0, and the same number is accepted again.
  private static void indexNumbers() {
    for (int number : new int[] {0, 1, 9998, 9999}) {
      Portsmith x = new Portsmith();
      int of = number;
      Check.is("at first", 0, () -> x.index(0, 200000, 1));
      Check.is("number " + number, 0, () -> x.index(of, 200000, 1));
      Check.is("again", 0, () -> x.index(of, 200000, 1));
      if (number > 0) {
        Check.is("one less", 2, () -> x.index(of - 1, 200000, 1));
        Check.is("least", 2, () -> x.index(0, 200000, 1));
      }
      Check.is("one more, that ends at once", of < 9999 ? 3 : 0,
          () -> x.index(Math.min(9999, of + 1), of < 9999 ? 0 : 1, 1));
      Check.is("it did not count", 0, () -> x.index(of, 1, 1));
    }
  }

  // Promises 25 and 27.
  private static void lastMinute() {
    Portsmith x = new Portsmith();
    Check.is("ends at the first minute", 3, () -> x.index(0, 0, 1));
    Check.is("ends behind it", 0, () -> x.index(0, 1, 1));
    for (int hour = 1; hour <= 99; hour++) {
      int due = 1000 * hour;
      Check.is("minutes", due, () -> x.pass(1000));
    }
    Check.is("one ahead of the last", 99999, () -> x.pass(999));
    Check.noState("two more", () -> x.pass(2));
    Check.noState("a thousand more", () -> x.pass(1000));
    Check.noArgument("a thousand and one", () -> x.pass(1001));
    Check.is("still one ahead of the last", 99999, () -> x.pass(0));
    Check.is("ends at the last minute", 0, () -> x.index(1, 100000, 1));
    Check.is("the last minute", 100000, () -> x.pass(1));
    Check.is("none more", 100000, () -> x.pass(0));
    Check.noState("one more", () -> x.pass(1));
    Check.noState("the most", () -> x.pass(1000));
    Check.noArgument("one less", () -> x.pass(-1));
    Check.is("ends ahead of the last minute", 3, () -> x.index(2, 99999, 1));
    Check.is("ends at it", 3, () -> x.index(2, 100000, 1));
    Check.is("ends behind it", 0, () -> x.index(2, 100001, 1));
    Check.is("ends as late as can be", 0, () -> x.index(2, 200000, 1));
  }

  // Promises 28, 30 and 31: contents from 0 to 999.
  private static void contents() {
    int[] contents = {0, 1, 998, 999};
    for (int content : contents) {
      for (int told : contents) {
        Portsmith x = new Portsmith();
        x.version(5, 0, 0, 0, content);
        Check.is("at first its content", content, () -> x.mirror(2, 5, 0, told));
        Check.is("what was told", told, () -> x.mirror(2, 5, 0, told));
        x.shut(0, true);
        x.shut(1, true);
        boolean isLie = content != told;
        Check.is(told + " for " + content, isLie ? NONE : 2, () -> x.fetch(5, 0));
        Check.is("lies", isLie ? 1 : 0, () -> x.lies(2));
        x.mirror(2, 5, 0, NONE);
        Check.is("its content again", isLie ? 2 : 3, () -> x.fetch(5, 0));
        Check.is("from the store", 3, () -> x.fetch(5, 0));
        Check.is("lies as before", isLie ? 1 : 0, () -> x.lies(2));
      }
    }
  }

  // Promises 32 and 34.
  private static void files() {
    for (int count = 0; count <= 3; count++) {
      Portsmith x = new Portsmith();
      Check.version(x, 5, 1000);
      int[] paths = {15, 0, 8};
      for (int i = 0; i < count; i++) {
        int path = paths[i];
        int content = i == 0 ? 999 : i - 1;
        Check.is("files", i + 1, () -> x.file(5, 0, path, content, false));
        Check.noArgument("the same path again", () -> x.file(5, 0, path, content, false));
      }
      if (count == 3) {
        Check.noState("a fourth", () -> x.file(5, 0, 1, 1, false));
      }
      Check.wish(x, 5, "*", 0);
      x.solve(0, NONE);
      x.lock(0);
      Check.is("installed", 0, () -> x.install(0, 99));
      int due = count + 1;
      Check.is(count + " files and the last step", due, x::steps);
      Check.is("at 15", count > 0 ? 999 : NONE, () -> x.path(15, 0));
      Check.is("at 0", count > 1 ? 0 : NONE, () -> x.path(0, 0));
      Check.is("at 8", count > 2 ? 1 : NONE, () -> x.path(8, 0));
      Check.is("at 1", NONE, () -> x.path(1, 0));
    }
  }

  // Promise 33: each path may be diverted.
  private static void diversions() {
    for (int path = 0; path < 16; path++) {
      Portsmith y = new Portsmith();
      int of = path;
      Check.is("the first one", 1, () -> y.divert(5, of, (of + 1) % 16));
    }
    Portsmith x = new Portsmith();
    for (int path = 0; path < 16; path++) {
      int of = path;
      Check.is("one more", path + 1, () -> x.divert(of % 6, of, 15 - of));
    }
    for (int path = 0; path < 16; path++) {
      int of = path;
      Check.is("another one", 16, () -> x.divert(5, of, (of + 1) % 16));
    }
    for (int path = 15; path >= 0; path--) {
      int of = path;
      Check.is("one fewer", path, () -> x.divert(NONE, of, 15 - of));
      Check.is("it is away", path, () -> x.divert(NONE, of, 15 - of));
    }
  }

  // Promises 34 and 40 to 44: the one that is the machine's never goes, and the others in turn.
  private static void generations() {
    Portsmith x = new Portsmith();
    for (int count = 0; count < 20; count++) {
      int kept = Math.min(count, 6);
      int last = count - 1;
      Check.is("kept", kept, x::generations);
      Check.is("the machine's", last, x::generation);
      for (int number = -1; number <= count; number++) {
        int of = number;
        boolean isKept = number >= 0 && number < count && number >= count - 6;
        Check.same("kept of " + count + ": " + number, isKept ? "0" : Refused.PLACE,
            Check.told(() -> x.run(of, false) ? 1 : 0));
      }
      int due = count;
      Check.is("the next", due, () -> x.install(0, 99));
    }
    Check.is("all but one", 5, x::collect);
    Check.is("one is kept", 1, x::generations);
    Check.is("the machine's stays", 19, x::generation);
    Check.is("it can be rolled back to", 0, () -> x.rollback(19));
    Check.noPlace("the one ahead cannot", () -> x.rollback(18));
    Check.is("the next number", 20, () -> x.install(0, 99));
    Check.is("two are kept", 2, x::generations);
  }

  // Promises 34 and 40: as long as there is room, none has to go; from six on one that can.
  private static void generationsThatRun() {
    for (int still = 0; still <= 5; still++) {
      Portsmith x = new Portsmith();
      for (int number = 0; number < 6; number++) {
        int due = number;
        Check.is("there is room", due, () -> x.install(0, 99));
        x.run(number, number != still);
      }
      if (still == 5) {
        Check.is("the machine's does not go", -3, () -> x.install(0, 99));
        Check.is("six are kept", 6, x::generations);
        x.rollback(2);
        Check.is("it can go now", 6, () -> x.install(0, 99));
        Check.noPlace("it went", () -> x.rollback(5));
      } else {
        Check.is("one can go", 6, () -> x.install(0, 99));
        int gone = still;
        Check.noPlace("it went", () -> x.rollback(gone));
        Check.is("none more can", -3, () -> x.install(0, 99));
        Check.is("the machine's stays", 6, x::generation);
      }
      Check.is("six are kept", 6, x::generations);
      Check.is("those that do not run, and are not the machine's", 0, x::collect);
    }
  }
}
