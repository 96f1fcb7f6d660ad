/**
 * Sentences of the document, from its terms on, that the other tests would miss if they did not
 * hold. Each test has the sentence above it.
 */
public final class SentenceTest {
  private static final int NONE = Portsmith.NONE;

  public static void main(String[] args) {
    rangesStayTexts();
    previewsEachByTheirEpoch();
    previewsInWhatIsAskedFor();
    withinLooksAtRangesAlone();
    featuresAreOfVersionsOfThePackage();
    featuresThatNothingAsksFor();
    conflictsOnEachPlatform();
    providedByASchemeThatChanges();
    changesAreOfTheLock();
    solutionsOfAsManyChanges();
    solutionsWithPreviews();
    licencesOfAllThatAreChosen();
    storiesOfEachPlatform();
    advisoriesEachByItself();
    advisoriesLookAtTheVersion();
    indexRefusalsInTheirOrder();
    indexAcceptedLast();
    whatWasToldForAVersion();
    storeIsOfAVersion();
    theFirstMirrorThatGivesIt();
    yankedVersionsCome();
    filesComeWithAnInstall();
    configurationsByDiversions();
    configurationsOfMoreVersions();
    configurationsOverThoseOfOthers();
    configurationsBehindARollback();
    asideForEachFile();
    onlyWhatWasPackedIsOtherwise();
    generationsKeepDiversionsAside();
    sixWithTheLatest();
    aDiversionThatThereWas();
    Check.end();
  }

  private static void tell(Portsmith x, int packs, int... numbers) {
    for (int pack = 0; pack < packs; pack++) {
      for (int number : numbers) {
        Check.version(x, pack, number);
      }
    }
  }

  /** Wishes these versions alone, by their majors, and locks them on platform 0. */
  private static void lock(Portsmith x, int... packsAndMajors) {
    x.unwish();
    for (int i = 0; i < packsAndMajors.length; i += 2) {
      Check.wish(x, packsAndMajors[i], "=" + packsAndMajors[i + 1], 0);
    }
    x.solve(0, NONE);
    Check.is("locked", packsAndMajors.length / 2, () -> x.lock(0));
  }

  private static void has(Portsmith x, int path, int content, int owner, int packed) {
    Check.is("content of " + path, content, () -> x.path(path, 0));
    Check.is("owner of " + path, owner, () -> x.path(path, 1));
    Check.is("packed at " + path, packed, () -> x.path(path, 2));
  }

  // "A range is a text"; "a version of a package is compared with that of a test by the package's
  // scheme": by the one that it has when it is asked, in wishes, needs, conflicts, advisories.
  private static void rangesStayTexts() {
    Portsmith x = new Portsmith();
    Check.version(x, 0, 1000);
    Check.version(x, 1, 12000);
    Check.need(x, 0, 0, 1, "=2");
    Check.wish(x, 0, "*", 0);
    Check.is("a need by NUMBERS", 1, () -> x.closures(0));
    x.scheme(1, Portsmith.EPOCHS);
    Check.is("by EPOCHS", 0, () -> x.closures(0));
    x.scheme(1, Portsmith.LAST);
    Check.is("by LAST", 1, () -> x.closures(0));
    x.scheme(0, Portsmith.EPOCHS);
    Check.is("the scheme of the one that needs says nothing", 1, () -> x.closures(0));
    Check.wish(x, 1, "=2", 0);
    Check.is("a wish by LAST", 1, () -> x.closures(0));
    x.scheme(1, Portsmith.EPOCHS);
    Check.is("both by EPOCHS: the fewest wishes, the least bits", 1, () -> x.story(0));
    x.scheme(1, Portsmith.NUMBERS);
    x.solve(0, NONE);
    x.lock(0);
    Check.tape(x, "=2");
    x.advise(1, 5);
    Check.is("an advisory by NUMBERS", 2, () -> x.advised(0, 1));
    x.scheme(1, Portsmith.EPOCHS);
    Check.is("an advisory by EPOCHS", 0, () -> x.advised(0, 1));
    x.scheme(1, Portsmith.LAST);
    Check.is("an advisory by LAST", 2, () -> x.advised(0, 1));
  }

  // "for a preview, one of them tells a preview with the same epoch, major, minor and patch": the
  // same epoch also by the schemes that do not look at it.
  private static void previewsEachByTheirEpoch() {
    for (int scheme = Portsmith.NUMBERS; scheme <= Portsmith.LAST; scheme++) {
      Portsmith x = new Portsmith();
      int by = scheme;
      x.scheme(0, scheme);
      Check.version(x, 0, 21233);
      Check.version(x, 0, 11233);
      Check.version(x, 0, 1233);
      Check.version(x, 0, 1230);
      boolean isByEpochs = scheme == Portsmith.EPOCHS;
      Check.tape(x, "=2:1.2.3-3");
      Check.is("scheme " + by + ", alike with epoch 2", 1, () -> x.within(0));
      Check.tape(x, "=1.2.3-3");
      Check.is("scheme " + by + ", alike with epoch 0", 4, () -> x.within(0));
      Check.tape(x, ">=0:1.2.3-1,<=2:1.2.3");
      Check.is("scheme " + by + ", told with epoch 0 alone", 4 | 8, () -> x.within(0));
      Check.tape(x, ">=0:1.2.3,<=2:1.2.3-4");
      Check.is("scheme " + by + ", told with epoch 2 alone", isByEpochs ? 1 | 8 : 0,
          () -> x.within(0));
      Check.tape(x, ">=0:1.2.3-1,<=2:1.2.3-4");
      Check.is("scheme " + by + ", told with both", isByEpochs ? 1 | 4 | 8 : 1 | 4,
          () -> x.within(0));
    }
  }

  // "* holds of all releases": of no previews, in whatever it is told; and "a preview ... one of
  // them tells a preview" counts there as well.
  private static void previewsInWhatIsAskedFor() {
    Portsmith x = new Portsmith();
    Check.version(x, 0, 1000);
    Check.version(x, 1, 2001);
    Check.wish(x, 0, "*", 0);
    Check.wish(x, 1, "=2-1", 0);
    Check.conflict(x, 0, 0, 1, "*");
    Check.is("a conflict with releases alone", 1, () -> x.closures(0));
    Check.conflict(x, 0, 0, 1, ">=2-1");
    Check.is("a conflict that tells the preview", 3, () -> x.story(0));
    x.unwish();
    Check.wish(x, 0, "*", 0);
    Check.need(x, 0, 0, 2, "<4-3");
    x.provide(0, 0, 2, 4002);
    Check.is("what is provided may be a preview", 1, () -> x.closures(0));
    x.unwish();
    Check.wish(x, 2, "<4", 0);
    Check.is("of which a test must tell one", 0, () -> x.closures(0));
    Portsmith y = new Portsmith();
    y.version(0, 1000, 1, 0, 0);
    Check.version(y, 1, 2001);
    Check.tape(y, "*");
    y.need(0, 0, 1, 0, 7, 1);
    Check.wish(y, 0, "*", 0);
    Check.is("a need that is not active", 1, () -> y.closures(0));
    Check.wish(y, 0, "*", 1);
    Check.is("a need of releases alone", 0, () -> y.closures(0));
    Check.version(y, 1, 2000);
    Check.is("a release", 1, () -> y.closures(0));
  }

  // "Returns of which versions of a package the tape, as a range, holds": whatever else is told of
  // them.
  private static void withinLooksAtRangesAlone() {
    Portsmith x = new Portsmith();
    x.version(0, 1000, 0, 3, 0);
    x.version(0, 2000, 0, 0, 0);
    Check.version(x, 1, 1000);
    x.provide(1, 0, 0, 3000);
    x.policy(0);
    x.yank(0, 1, true);
    Check.tape(x, ">=1");
    Check.is("yanked, or not in the policy", 3, () -> x.within(0));
    Check.is("what it provides is no version of another", 1, () -> x.within(1));
    Check.tape(x, "=3");
    Check.is("nor is what is provided one of its own", 0, () -> x.within(0));
  }

  // "by a chosen version of its package, if the range holds of it, and it has all features asked
  // for; or, if none are asked for, by each chosen version that provides the package".
  private static void featuresAreOfVersionsOfThePackage() {
    Portsmith x = new Portsmith();
    x.version(0, 1000, 15, 0, 0);
    x.provide(0, 0, 1, 1000);
    Check.version(x, 2, 1000);
    Check.tape(x, "*");
    x.need(2, 0, 1, 1, 7, NONE);
    Check.wish(x, 0, "*", 0);
    Check.wish(x, 2, "*", 0);
    Check.is("what provides it has the feature, but is no version of it", 0, () -> x.closures(0));
    Check.is("the wish for what needs it", 2, () -> x.story(0));
    x.version(1, 1000, 1, 0, 0);
    Check.is("a version of it has", 1, () -> x.closures(0));
    x.unwish();
    Check.wish(x, 1, "*", 0);
    Check.wish(x, 1, "*", 1);
    Check.is("one wish by both, one by its version: that is there", 2, () -> x.closures(0));
    x.solve(0, NONE);
    Check.is("it is enough", NONE, () -> x.proposed(0, 0));
  }

  // "A feature of a package is on, if it is asked for by a wish or an active need of a reached one";
  // "A need is active on a platform that it names, if its own feature is on, or it has none."
  private static void featuresThatNothingAsksFor() {
    Portsmith x = new Portsmith();
    Check.version(x, 0, 1000);
    x.version(1, 1000, 3, 0, 0);
    Check.version(x, 2, 1000);
    Check.need(x, 0, 0, 1, "*");
    Check.tape(x, "*");
    x.need(0, 0, 1, 1, 1, NONE);
    Check.tape(x, "*");
    x.need(0, 0, 1, 2, 7, 8);
    Check.tape(x, "*");
    x.need(1, 0, 2, 0, 7, 1);
    Check.tape(x, "=9");
    x.need(1, 0, 2, 0, 7, 2);
    Check.wish(x, 0, "*", 0);
    for (int platform = 0; platform < 3; platform++) {
      int on = platform;
      Check.is("a closure on " + on, 0, () -> x.solve(on, NONE));
      Check.is("asked for on 0 alone: packages on " + on, on == 0 ? 3 : 2, () -> x.lock(on));
    }
  }

  // "no conflict holds of a chosen one": a conflict names no platforms.
  private static void conflictsOnEachPlatform() {
    Portsmith x = new Portsmith();
    tell(x, 3, 1000);
    x.provide(2, 0, 1, 5000);
    Check.conflict(x, 0, 0, 1, "=5");
    Check.wish(x, 0, "*", 0);
    Check.wish(x, 1, "*", 0);
    for (int platform = 0; platform < 3; platform++) {
      int on = platform;
      // 1 is met by its own version, or by what 2 provides, which is what the conflict is of.
      Check.is("closures on " + on, 1, () -> x.closures(on));
      x.solve(on, NONE);
      Check.is("not by 2, on " + on, NONE, () -> x.proposed(on, 2));
    }
    Check.wish(x, 2, "*", 0);
    for (int platform = 0; platform < 3; platform++) {
      int on = platform;
      Check.is("0 and 2 never, on " + on, 5, () -> x.story(on));
    }
  }

  // "a version, which is looked at by that package's scheme", as it is then.
  private static void providedByASchemeThatChanges() {
    Portsmith x = new Portsmith();
    tell(x, 3, 1000);
    x.provide(2, 0, 1, 15000);
    Check.conflict(x, 0, 0, 1, "=5");
    Check.wish(x, 0, "*", 0);
    Check.wish(x, 2, "*", 0);
    Check.is("by NUMBERS the conflict holds", 3, () -> x.story(0));
    x.scheme(1, Portsmith.EPOCHS);
    Check.is("by EPOCHS it does not", NONE, () -> x.story(0));
    x.scheme(0, Portsmith.EPOCHS);
    x.scheme(2, Portsmith.EPOCHS);
    x.scheme(1, Portsmith.NUMBERS);
    Check.is("by the schemes of the others it would not", 3, () -> x.story(0));
  }

  // "changes: packages that have a locked version, and not that": on that platform, whatever is
  // installed, or proposed, or locked elsewhere; "none is yanked but as locked".
  private static void changesAreOfTheLock() {
    Portsmith x = new Portsmith();
    tell(x, 1, 1000, 2000);
    lock(x, 0, 1);
    x.install(0, 99);
    x.unwish();
    Check.wish(x, 0, "*", 0);
    Check.is("nothing is locked on 1", 0, () -> x.solve(1, NONE));
    Check.is("so the greatest", 1, () -> x.proposed(1, 0));
    Check.is("it is locked on 1", 1, () -> x.lock(1));
    lock(x, 0, 2);
    x.unwish();
    Check.wish(x, 0, "=1", 0);
    Check.is("what is installed is a change", 1, () -> x.solve(0, NONE));
    x.yank(0, 0, true);
    Check.is("yanked, installed and proposed, but not locked", NONE, () -> x.solve(0, NONE));
    x.yank(0, 1, true);
    Check.is("nothing on 2", 0, () -> x.closures(2));
    x.unwish();
    Check.wish(x, 0, "*", 0);
    Check.is("what is locked there, on 1", 1, () -> x.closures(1));
    Check.is("on 0", 1, () -> x.closures(0));
    Check.is("on 2", 0, () -> x.closures(2));
  }

  // "the fewest changes ..; of several the one with the fewest packages; then by packages, from 0 on:
  // the one that has none of it, otherwise the greatest version by the order": locked or not.
  private static void solutionsOfAsManyChanges() {
    Portsmith x = new Portsmith();
    tell(x, 2, 1000, 2000);
    lock(x, 0, 1, 1, 1);
    Check.conflict(x, 1, 0, 0, "=1");
    x.unwish();
    Check.wish(x, 0, "*", 0);
    Check.wish(x, 1, "*", 0);
    Check.is("one of both changes", 1, () -> x.solve(0, NONE));
    Check.is("0 has the greatest", 1, () -> x.proposed(0, 0));
    Check.is("so 1 is as locked", 0, () -> x.proposed(0, 1));
    Check.conflict(x, 0, 1, 1, "=1");
    Check.is("still one", 1, () -> x.solve(0, NONE));
    Check.is("but not with that", 0, () -> x.proposed(0, 0));
    Check.is("1 changes", 1, () -> x.proposed(0, 1));
    Portsmith y = new Portsmith();
    tell(y, 2, 1000);
    lock(y, 0, 1, 1, 1);
    y.provide(0, 0, 5, 1000);
    y.provide(1, 0, 5, 1000);
    y.unwish();
    Check.wish(y, 5, "*", 0);
    Check.is("no change goes ahead of fewer packages", 0, () -> y.solve(0, NONE));
    Check.is("both are there", 0, () -> y.proposed(0, 0));
    Check.conflict(y, 0, 0, 1, "*");
    Check.is("one of both goes", 1, () -> y.solve(0, NONE));
    Check.is("there is none of 0", NONE, () -> y.proposed(0, 0));
    Check.is("1 stays", 0, () -> y.proposed(0, 1));
    Check.is("but 0: no change without it", 0, () -> y.solve(0, 0));
    Check.is("but 1: no change with 0, and none of 1", 0, () -> y.solve(0, 1));
    Check.is("0 stays", 0, () -> y.proposed(0, 0));
  }

  // "the greatest version by the order": a preview too, if the range holds of it.
  private static void solutionsWithPreviews() {
    Portsmith x = new Portsmith();
    tell(x, 1, 2001, 1000, 2002);
    Check.wish(x, 0, "*|=2-1", 0);
    Check.is("two closures", 2, () -> x.closures(0));
    x.solve(0, NONE);
    Check.is("a preview above a release", 0, () -> x.proposed(0, 0));
    x.unwish();
    Check.wish(x, 0, ">=1,<2|>=2-1", 0);
    x.solve(0, NONE);
    Check.is("a preview above another one", 2, () -> x.proposed(0, 0));
    Check.version(x, 0, 2000);
    x.solve(0, NONE);
    Check.is("the release above its previews", 3, () -> x.proposed(0, 0));
  }

  // "licences are in the policy": of all that are chosen, whether wished, needed, or locked.
  private static void licencesOfAllThatAreChosen() {
    Portsmith x = new Portsmith();
    for (int pack = 0; pack < 4; pack++) {
      x.version(pack, 1000, 0, pack, 0);
    }
    Check.need(x, 0, 0, 1, "*");
    Check.need(x, 1, 0, 5, "*");
    x.provide(2, 0, 5, 1000);
    Check.wish(x, 0, "*", 0);
    Check.is("nothing is locked", 0, () -> x.solve(0, NONE));
    Check.is("three are locked", 3, () -> x.lock(0));
    for (int licences = 0; licences < 16; licences++) {
      x.policy(licences);
      boolean isDue = (licences & 7) == 7;
      Check.is("closures by " + licences, isDue ? 1 : 0, () -> x.closures(0));
      Check.holds("holds by " + licences, isDue, () -> x.holds(0));
      Check.is("the story by " + licences, isDue ? NONE : 1, () -> x.story(0));
    }
  }

  // "without any closure on it", the platform.
  private static void storiesOfEachPlatform() {
    Portsmith x = new Portsmith();
    tell(x, 3, 1000);
    Check.tape(x, "=9");
    x.need(0, 0, 5, 0, 1, NONE);
    Check.tape(x, "=9");
    x.need(1, 0, 5, 0, 2, NONE);
    Check.tape(x, "=9");
    x.need(2, 0, 5, 0, 3, NONE);
    Check.wish(x, 2, "*", 0);
    Check.wish(x, 1, "*", 0);
    Check.wish(x, 0, "*", 0);
    Check.is("on 0 by 2, the first wish", 1, () -> x.story(0));
    Check.is("on 1 by 2 too", 1, () -> x.story(1));
    Check.is("on 2 by none", NONE, () -> x.story(2));
    x.solve(2, NONE);
    x.lock(2);
    Check.holds("the lock of 2 holds on it", true, () -> x.holds(2));
    x.unwish();
    Check.wish(x, 1, "*", 0);
    Check.wish(x, 0, "*", 0);
    Check.is("on 0 by 0, the second wish", 2, () -> x.story(0));
    Check.is("on 1 by 1, the first wish", 1, () -> x.story(1));
    Check.is("closures on 0", 0, () -> x.closures(0));
    Check.is("closures on 2", 1, () -> x.closures(2));
  }

  // "of which the range of an advisory of this severity or more holds": one and the same.
  private static void advisoriesEachByItself() {
    Portsmith x = new Portsmith();
    tell(x, 2, 1000);
    Check.wish(x, 0, "*", 0);
    x.solve(0, NONE);
    x.lock(0);
    Check.tape(x, "=1");
    x.advise(0, 3);
    Check.tape(x, "=2");
    x.advise(0, 9);
    Check.tape(x, "*");
    x.advise(1, 9);
    Check.is("of severity 3", 1, () -> x.advised(0, 3));
    Check.is("the one of severity 9 does not hold of it", 0, () -> x.advised(0, 4));
    Check.tape(x, "=1-1|*");
    x.advise(0, 5);
    Check.is("another one does", 1, () -> x.advised(0, 5));
  }

  // "which locked packages of a platform have a version of which the range .. holds": not what they
  // provide, whether yanked or not, wished or not.
  private static void advisoriesLookAtTheVersion() {
    Portsmith x = new Portsmith();
    tell(x, 2, 1000, 2000);
    x.provide(0, 0, 1, 2000);
    lock(x, 0, 1, 1, 1);
    for (int pack = 0; pack < 2; pack++) {
      Check.tape(x, "=2");
      x.advise(pack, 9);
    }
    Check.is("what is provided does not count", 0, () -> x.advised(0, 1));
    Check.tape(x, "=1");
    x.advise(1, 9);
    x.yank(1, 0, true);
    x.unwish();
    x.policy(0);
    Check.is("yanked, not wished, not in the policy", 2, () -> x.advised(0, 1));
    x.policy(15);
    Check.wish(x, 0, "=2", 0);
    x.solve(0, NONE);
    Check.is("what is only proposed does not count", 2, () -> x.advised(0, 1));
    x.install(0, 99);
    x.lock(0);
    Check.is("what is only installed does not either", 1, () -> x.advised(0, 1));
  }

  // "(else 1 is answered), its number is not below .. (else 2 ..), and it does not end at the
  // minute, or ahead of it (else 3)": each of two or three that fail at once.
  private static void indexRefusalsInTheirOrder() {
    Portsmith x = new Portsmith();
    x.pass(10);
    Check.is("accepted", 0, () -> x.index(5, 11, 1));
    Check.is("signed by none, below, ended", 1, () -> x.index(4, 10, 0));
    Check.is("signed by others, below", 1, () -> x.index(4, 11, 30));
    Check.is("signed by none, ended", 1, () -> x.index(5, 9, 0));
    Check.is("below, ended", 2, () -> x.index(4, 10, 1));
    Check.is("ended", 3, () -> x.index(5, 10, 1));
    Check.is("none of these", 0, () -> x.index(5, 11, 31));
  }

  // "not below that of the one accepted last": what was not accepted says nothing, a role neither.
  private static void indexAcceptedLast() {
    Portsmith x = new Portsmith();
    Check.is("20", 0, () -> x.index(20, 9, 1));
    Check.is("40, unsigned", 1, () -> x.index(40, 9, 2));
    Check.is("30, ended", 3, () -> x.index(30, 0, 1));
    Check.is("20 again", 0, () -> x.index(20, 9, 1));
    x.role(2, 1, 3);
    Check.is("19, by the new role", 2, () -> x.index(19, 9, 2));
    Check.is("21", 0, () -> x.index(21, 9, 2));
    Check.is("20 is below now", 2, () -> x.index(20, 9, 2));
    x.pass(8);
    Check.is("ends in a minute", 0, () -> x.index(21, 9, 2));
  }

  // "A mirror, 0 to 2, gives of a version what was told for it, otherwise its content; or nothing,
  // if it is shut."
  private static void whatWasToldForAVersion() {
    Portsmith x = new Portsmith();
    for (int version = 0; version < 4; version++) {
      x.version(0, 1000, 0, 0, 10 + version);
      x.version(5, 1000, 0, 0, 50 + version);
    }
    for (int mirror = 0; mirror < 3; mirror++) {
      for (int version = 0; version < 4; version++) {
        int of = mirror;
        int told = version;
        Check.is("its content", 10 + version, () -> x.mirror(of, 0, told, 100 * of + told));
        Check.is("told for no other package", 50 + version, () -> x.mirror(of, 5, told, NONE));
      }
    }
    for (int mirror = 0; mirror < 3; mirror++) {
      int of = mirror;
      x.shut(mirror, true);
      Check.is("told while open", 100 * mirror + 1, () -> x.mirror(of, 0, 1, 7));
      x.shut(mirror, false);
      Check.is("told while shut", 7, () -> x.mirror(of, 0, 1, 11));
      for (int version = 0; version < 4; version++) {
        int told = version;
        int due = version == 1 ? 11 : 100 * mirror + version;
        Check.is("told for it", due, () -> x.mirror(of, 0, told, due));
      }
    }
    x.shut(0, true);
    x.shut(0, false);
    Check.is("what it tells is its content", 0, () -> x.fetch(0, 1));
    Check.is("a lie each", NONE, () -> x.fetch(0, 0));
    for (int mirror = 0; mirror < 3; mirror++) {
      int of = mirror;
      Check.is("lies so far", of + 1, () -> x.lies(of));
      x.shut(mirror, true);
      Check.is("the others lie", NONE, () -> x.fetch(0, 0));
      Check.is("the one that is shut does not", of + 1, () -> x.lies(of));
      x.shut(mirror, false);
    }
    for (int mirror = 0; mirror < 3; mirror++) {
      int of = mirror;
      Check.is("each was shut once of four times", 3, () -> x.lies(of));
    }
  }

  // "from the store, if it has it": a version, not its package; whatever mirrors give then.
  private static void storeIsOfAVersion() {
    Portsmith x = new Portsmith();
    for (int pack = 0; pack < 2; pack++) {
      x.version(pack, 1000, 0, 0, 5);
      x.version(pack, 1000, 0, 0, 5);
    }
    Check.is("fetched", 0, () -> x.fetch(0, 1));
    Check.is("another version, of the same content", 0, () -> x.fetch(0, 0));
    for (int mirror = 0; mirror < 3; mirror++) {
      x.shut(mirror, true);
    }
    Check.is("another package is not in the store", NONE, () -> x.fetch(1, 1));
    Check.is("it is, with all mirrors shut", 3, () -> x.fetch(0, 1));
    x.shut(1, false);
    x.mirror(1, 0, 1, 6);
    Check.is("whatever a mirror gives", 3, () -> x.fetch(0, 1));
    Check.is("which is no lie then", 0, () -> x.lies(1));
    Check.is("from the first that is open", 1, () -> x.fetch(1, 1));
  }

  // "otherwise from the first mirror that gives its content": however often it lied before.
  private static void theFirstMirrorThatGivesIt() {
    Portsmith x = new Portsmith();
    for (int version = 0; version < 4; version++) {
      x.version(0, 1000, 0, 0, 5);
    }
    for (int mirror = 0; mirror < 3; mirror++) {
      x.mirror(mirror, 0, 0, 6);
    }
    for (int time = 1; time <= 20; time++) {
      Check.is("all lie", NONE, () -> x.fetch(0, 0));
      int due = time;
      Check.is("each time", due, () -> x.lies(2));
    }
    Check.is("from 0", 0, () -> x.fetch(0, 1));
    x.shut(0, true);
    Check.is("from 1", 1, () -> x.fetch(0, 2));
    x.shut(1, true);
    Check.is("from 2", 2, () -> x.fetch(0, 3));
    for (int mirror = 0; mirror < 3; mirror++) {
      int of = mirror;
      Check.is("lies as before", 20, () -> x.lies(of));
    }
  }

  // "Installs the lock of a platform", "To fetch a version": a yanked one, or one that no closure
  // has any more, comes as well; and installing is not fetching.
  private static void yankedVersionsCome() {
    Portsmith x = new Portsmith();
    tell(x, 2, 1000, 2000);
    x.file(0, 0, 5, 50, false);
    lock(x, 0, 1);
    x.yank(0, 0, true);
    for (int mirror = 0; mirror < 3; mirror++) {
      x.shut(mirror, true);
    }
    Check.holds("it holds as locked", true, () -> x.holds(0));
    Check.is("yanked, and nowhere to fetch it", 0, () -> x.install(0, 99));
    has(x, 5, 50, 0, 50);
    Check.is("it was not fetched with that", NONE, () -> x.fetch(0, 0));
    x.shut(2, false);
    Check.is("a yanked one", 2, () -> x.fetch(0, 0));
    x.yank(0, 0, false);
    x.yank(0, 0, true);
    Check.is("it stays in the store", 3, () -> x.fetch(0, 0));
    x.unwish();
    Check.wish(x, 1, "*", 0);
    x.policy(0);
    Check.holds("it holds no more", false, () -> x.holds(0));
    Check.is("it is locked all the same", 1, () -> x.install(0, 99));
    Check.is("it is the machine's", 0, () -> x.installed(0));
  }

  // "then of each package .. its files come": those that are told then, with an install alone.
  private static void filesComeWithAnInstall() {
    Portsmith x = new Portsmith();
    tell(x, 1, 1000);
    lock(x, 0, 1);
    x.install(0, 99);
    x.file(0, 0, 2, 20, false);
    has(x, 2, NONE, NONE, NONE);
    Check.is("one more step", 1, () -> x.install(0, 99));
    Check.is("two steps", 2, x::steps);
    has(x, 2, 20, 0, 20);
    x.divert(5, 2, 3);
    has(x, 2, 20, 0, 20);
    has(x, 3, NONE, NONE, NONE);
    Check.is("the diversion counts now", 2, () -> x.install(0, 99));
    Check.is("one goes, one comes", 3, x::steps);
    has(x, 2, NONE, NONE, NONE);
    has(x, 3, 20, 0, 20);
    x.rollback(0);
    has(x, 3, NONE, NONE, NONE);
    Check.is("the version was installed without a file", 0, () -> x.installed(0));
  }

  // "for a configuration that comes to a path that is the same package's already": by diversions,
  // and whatever file of the package was there.
  private static void configurationsByDiversions() {
    Portsmith x = new Portsmith();
    tell(x, 1, 1000, 2000);
    x.file(0, 0, 3, 30, true);
    x.file(0, 1, 8, 80, true);
    lock(x, 0, 1);
    x.install(0, 99);
    x.edit(3, 999);
    x.divert(1, 8, 3);
    lock(x, 0, 2);
    x.install(0, 99);
    has(x, 3, 999, 0, 80);
    Check.is("what was packed is not the new content", 1, x::aside);
    x.install(0, 99);
    has(x, 3, 999, 0, 80);
    Check.is("now it is", 1, x::aside);
    x.divert(NONE, 8, 3);
    x.install(0, 99);
    has(x, 3, NONE, NONE, NONE);
    has(x, 8, 80, 0, 80);
    Check.is("a path that was nobody's", 1, x::aside);
  }

  // "the same package's already": whichever of its versions was there.
  private static void configurationsOfMoreVersions() {
    Portsmith x = new Portsmith();
    tell(x, 1, 0, 1000, 2000, 3000);
    for (int version = 0; version < 4; version++) {
      x.file(0, version, 3, 100 * (version / 2), true);
    }
    int[] packed = {0, 0, 100, 100};
    int[] aside = {0, 0, 1, 1};
    for (int version = 0; version < 4; version++) {
      lock(x, 0, version);
      x.install(0, 99);
      has(x, 3, version == 0 ? 0 : 500, 0, packed[version]);
      int due = aside[version];
      Check.is("put aside", due, x::aside);
      x.edit(3, 500);
    }
    x.edit(3, 100);
    lock(x, 0, 0);
    x.install(0, 99);
    has(x, 3, 0, 0, 0);
    Check.is("what is there is what was packed: it is no edit", 1, x::aside);
  }

  // "a path that is the same package's already": not another one's, installed as both may be.
  private static void configurationsOverThoseOfOthers() {
    Portsmith x = new Portsmith();
    tell(x, 2, 1000, 2000);
    x.file(0, 0, 3, 30, true);
    x.file(0, 1, 4, 40, true);
    x.file(1, 0, 4, 41, true);
    x.file(1, 1, 3, 31, true);
    lock(x, 0, 1, 1, 1);
    x.install(0, 99);
    x.edit(3, 500);
    x.edit(4, 500);
    lock(x, 0, 2, 1, 2);
    Check.is("they change places", 1, () -> x.install(0, 99));
    Check.is("no path goes", 3, x::steps);
    has(x, 3, 31, 1, 31);
    has(x, 4, 40, 0, 40);
    Check.is("nothing is put aside", 0, x::aside);
  }

  // "To roll back is to make versions and paths as a generation has them": what was packed too, by
  // which the next install goes.
  private static void configurationsBehindARollback() {
    Portsmith x = new Portsmith();
    tell(x, 1, 1000, 2000);
    x.file(0, 0, 3, 7, true);
    x.file(0, 1, 3, 9, true);
    lock(x, 0, 1);
    x.install(0, 99);
    x.edit(3, 55);
    lock(x, 0, 2);
    x.install(0, 99);
    Check.is("put aside", 1, x::aside);
    x.rollback(0);
    has(x, 3, 7, 0, 7);
    x.install(0, 99);
    has(x, 3, 9, 0, 9);
    Check.is("the edit was rolled back", 1, x::aside);
    x.rollback(1);
    has(x, 3, 55, 0, 9);
    lock(x, 0, 1);
    x.install(0, 99);
    has(x, 3, 55, 0, 7);
    Check.is("rolled forward it is there again", 2, x::aside);
    x.edit(3, 1);
    x.rollback(1);
    has(x, 3, 55, 0, 9);
  }

  // "the new one is put aside, which is counted": each new one.
  private static void asideForEachFile() {
    Portsmith x = new Portsmith();
    tell(x, 2, 1000, 2000);
    for (int pack = 0; pack < 2; pack++) {
      for (int file = 0; file < 3; file++) {
        x.file(pack, 0, 8 * pack + file, 10, true);
        x.file(pack, 1, 8 * pack + file, 10 + file, true);
      }
    }
    lock(x, 0, 1, 1, 1);
    x.install(0, 99);
    for (int pack = 0; pack < 2; pack++) {
      for (int file = 0; file < 3; file++) {
        x.edit(8 * pack + file, 500);
      }
    }
    lock(x, 0, 2, 1, 2);
    Check.is("cut off ahead of the last step", NONE, () -> x.install(0, 6));
    Check.is("nothing aside", 0, x::aside);
    Check.is("six files and the last step", 1, () -> x.install(0, 7));
    Check.is("two of three each are new", 4, x::aside);
  }

  // "how many paths are otherwise then (their content, owner, or what was packed)": each alone.
  private static void onlyWhatWasPackedIsOtherwise() {
    Portsmith x = new Portsmith();
    tell(x, 2, 1000, 2000);
    x.file(0, 0, 3, 7, true);
    x.file(0, 1, 3, 9, true);
    x.file(1, 0, 3, 9, true);
    lock(x, 0, 1);
    x.install(0, 99);
    x.edit(3, 9);
    x.install(0, 99);
    has(x, 3, 9, 0, 7);
    lock(x, 0, 2);
    x.install(0, 99);
    has(x, 3, 9, 0, 9);
    Check.is("what was packed alone", 1, () -> x.rollback(1));
    Check.is("the content alone", 1, () -> x.rollback(0));
    Check.is("content and what was packed", 1, () -> x.rollback(2));
    lock(x, 1, 1);
    x.install(0, 99);
    has(x, 3, 9, 1, 9);
    Check.is("the owner alone", 1, () -> x.rollback(2));
    Check.is("nothing", 0, () -> x.rollback(2));
  }

  // "each keeps the versions, and all paths": nothing else, such as locks, diversions, steps.
  private static void generationsKeepDiversionsAside() {
    Portsmith x = new Portsmith();
    tell(x, 2, 1000, 2000);
    x.file(0, 0, 3, 7, false);
    lock(x, 0, 1);
    x.install(0, 99);
    x.divert(1, 3, 4);
    lock(x, 0, 1, 1, 1);
    x.install(0, 99);
    has(x, 4, 7, 0, 7);
    Check.is("both paths", 2, () -> x.rollback(0));
    Check.is("the diversion stays", 2, () -> x.divert(1, 9, 10));
    Check.is("the lock stays", 0, () -> x.locked(0, 1));
    Check.is("the steps stay", 3, x::steps);
    Check.is("the next one", 2, () -> x.install(0, 99));
    has(x, 3, NONE, NONE, NONE);
    has(x, 4, 7, 0, 7);
  }

  // "up to 6 are kept, with the latest one; if there are 6, the least that is not running, and is
  // not the machine's, goes with the last step".
  private static void sixWithTheLatest() {
    Portsmith x = new Portsmith();
    for (int number = 0; number < 6; number++) {
      x.install(0, 99);
    }
    x.rollback(0);
    x.collect();
    Check.is("0 alone", 1, x::generations);
    for (int number = 6; number <= 10; number++) {
      int due = number;
      Check.is("numbers go on", due, () -> x.install(0, 99));
      Check.is("there is room", due - 4, x::generations);
    }
    x.rollback(0);
    x.run(6, true);
    Check.is("one more", 11, () -> x.install(0, 99));
    Check.is("six", 6, x::generations);
    Check.holds("0 was the machine's", false, () -> x.run(0, false));
    Check.holds("6 runs", true, () -> x.run(6, true));
    Check.noPlace("7 went", () -> x.run(7, false) ? 1 : 0);
    Check.is("and one more", 12, () -> x.install(0, 99));
    Check.noPlace("0 went, now that it is not the machine's", () -> x.rollback(0));
    Check.is("8 is kept", 0, () -> x.rollback(8));
  }

  // "a diversion of the path that there was is none any more".
  private static void aDiversionThatThereWas() {
    Portsmith x = new Portsmith();
    tell(x, 3, 1000);
    x.file(0, 0, 3, 30, false);
    x.file(1, 0, 3, 31, false);
    x.divert(0, 3, 4);
    x.divert(1, 3, 5);
    lock(x, 0, 1, 1, 1);
    Check.is("one path is diverted", 1, () -> x.divert(1, 3, 5));
    Check.is("installed", 0, () -> x.install(0, 99));
    has(x, 3, 31, 1, 31);
    has(x, 4, NONE, NONE, NONE);
    has(x, 5, 30, 0, 30);
    x.divert(2, 3, 6);
    Check.is("for a third one: both are others", -2, () -> x.install(0, 99));
    x.divert(NONE, 3, 7);
    Check.is("for none: both keep the path", -2, () -> x.install(0, 99));
    lock(x, 0, 1);
    Check.is("0 alone", 1, () -> x.install(0, 99));
    has(x, 3, 30, 0, 30);
    has(x, 5, NONE, NONE, NONE);
  }
}
