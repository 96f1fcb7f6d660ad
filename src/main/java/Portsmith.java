/**
 * A system of packages: it tells versions and ranges, solves wishes, trusts indexes and mirrors,
 * and installs files in generations. The document ../shared/DOC.md says what each call promises.
 */
public final class Portsmith {
  public static final int NONE = -1;
  public static final int NUMBERS = 0, EPOCHS = 1, LAST = 2;

  private static final int PACKS = 6;
  private static final int VERSIONS = 4;
  private static final int ALL_VERSIONS = PACKS * VERSIONS;
  private static final int VERSION_BITS = 15;
  private static final int ALL_PACKS = 63;
  private static final int HIGHEST_NUMBER = 99999;
  private static final int HIGHEST_CONTENT = 999;

  private static final int FEATURE_BITS = 4;
  private static final int ALL_FEATURES = 15;
  private static final int HIGHEST_LICENCE = 3;
  private static final int ALL_LICENCES = 15;
  private static final int NEEDS = 4;
  private static final int CONFLICTS = 2;
  private static final int PROVIDED = 2;
  private static final int FILES = 3;

  private static final int PLATFORMS = 3;
  private static final int ALL_PLATFORMS = 7;
  private static final int WISHES = 4;
  private static final int ADVISORIES = 6;
  private static final int HIGHEST_SEVERITY = 9;

  private static final int TAPE = 40;
  private static final int TYPED_AT_ONCE = 8;
  private static final int LOWEST_SIGN = 33;
  private static final int HIGHEST_SIGN = 126;
  // The shortest parts are * with a | between: twenty of them fill the tape.
  private static final int TESTS = 20;

  private static final int LONGEST_PASS = 1000;
  private static final int LAST_MINUTE = 100000;
  private static final int LAST_END = 200000;
  private static final int HIGHEST_INDEX = 9999;
  private static final int ALL_KEYS = 31;
  private static final int MIRRORS = 3;
  private static final int FROM_STORE = 3;

  private static final int PATHS = 16;
  private static final int KEPT = 6;
  private static final int MOST_STEPS = 99;
  private static final int TWO_ON_ONE_PATH = -2;
  private static final int NONE_CAN_GO = -3;

  private final Tape tape = new Tape();
  private final Pack[] packs = new Pack[PACKS];
  private final Need[] wishes = new Need[WISHES];
  private int wishCount = 0;
  private int licences = ALL_LICENCES;
  private final Advisory[] advisories = new Advisory[ADVISORIES];
  private int advisoryCount = 0;

  private final int[][] locks = new int[PLATFORMS][PACKS];
  private final int[][] proposals = new int[PLATFORMS][PACKS];
  private final boolean[] isProposed = new boolean[PLATFORMS];
  private final Solver solver = new Solver();

  private int minute = 0;
  private int roleKeys = 1;
  private int roleThreshold = 1;
  private int latestIndex = 0;
  private final boolean[] isShut = new boolean[MIRRORS];
  private final int[] lieCounts = new int[MIRRORS];

  private final Installer installer = new Installer();

  public Portsmith() {
    for (int pack = 0; pack < PACKS; pack++) {
      packs[pack] = new Pack();
    }
    for (int platform = 0; platform < PLATFORMS; platform++) {
      for (int pack = 0; pack < PACKS; pack++) {
        locks[platform][pack] = NONE;
        proposals[platform][pack] = NONE;
      }
    }
  }

  // ---- the tape

  public int type(long characters, int n) throws IllegalArgumentException, IllegalStateException {
    if (n < 1 || n > TYPED_AT_ONCE) {
      throw new IllegalArgumentException("n is 1 to 8");
    }
    for (int i = 0; i < n; i++) {
      int sign = signAt(characters, i);
      if (sign < LOWEST_SIGN || sign > HIGHEST_SIGN) {
        throw new IllegalArgumentException("a character is 33 to 126");
      }
    }
    if (tape.length + n > TAPE) {
      throw new IllegalStateException("the tape has at most 40 characters");
    }
    for (int i = 0; i < n; i++) {
      tape.append((char) signAt(characters, i));
    }
    return tape.length;
  }

  public int wipe() {
    int had = tape.length;
    tape.clear();
    return had;
  }

  public int fault() {
    return tape.faultPlace();
  }

  // ---- packages, versions

  public int scheme(int pack, int scheme)
      throws IndexOutOfBoundsException, IllegalArgumentException {
    checkPack(pack);
    if (scheme < NUMBERS || scheme > LAST) {
      throw new IllegalArgumentException("no such scheme");
    }
    int was = packs[pack].scheme;
    packs[pack].scheme = scheme;
    return was;
  }

  public int version(int pack, int number, int features, int licence, int content)
      throws IndexOutOfBoundsException, IllegalArgumentException, IllegalStateException {
    checkPack(pack);
    checkRange(number, 0, HIGHEST_NUMBER);
    checkRange(features, 0, ALL_FEATURES);
    checkRange(licence, 0, HIGHEST_LICENCE);
    checkRange(content, 0, HIGHEST_CONTENT);
    Pack of = packs[pack];
    checkRoom(of.count, VERSIONS);
    of.versions[of.count] = new Version(number, features, licence, content);
    of.count++;
    return of.count - 1;
  }

  public int need(int pack, int version, int other, int features, int platforms, int own)
      throws IndexOutOfBoundsException, IllegalArgumentException, IllegalStateException {
    checkVersion(pack, version);
    checkPack(other);
    checkRange(features, 0, ALL_FEATURES);
    checkRange(platforms, 1, ALL_PLATFORMS);
    checkOwnFeature(own);
    checkOther(pack, other);
    Range range = tapeAsRange();
    Version of = packs[pack].versions[version];
    checkRoom(of.needCount, NEEDS);
    of.needs[of.needCount] = new Need(other, range, features, platforms, own);
    of.needCount++;
    tape.clear();
    return of.needCount;
  }

  public int conflict(int pack, int version, int other)
      throws IndexOutOfBoundsException, IllegalArgumentException, IllegalStateException {
    checkVersion(pack, version);
    checkPack(other);
    checkOther(pack, other);
    Range range = tapeAsRange();
    Version of = packs[pack].versions[version];
    checkRoom(of.conflictCount, CONFLICTS);
    of.conflicts[of.conflictCount] = new Need(other, range, 0, ALL_PLATFORMS, NONE);
    of.conflictCount++;
    tape.clear();
    return of.conflictCount;
  }

  public int provide(int pack, int version, int other, int number)
      throws IndexOutOfBoundsException, IllegalArgumentException, IllegalStateException {
    checkVersion(pack, version);
    checkPack(other);
    checkOther(pack, other);
    checkRange(number, 0, HIGHEST_NUMBER);
    Version of = packs[pack].versions[version];
    checkRoom(of.providedCount, PROVIDED);
    of.providedPacks[of.providedCount] = other;
    of.providedDigits[of.providedCount] = Test.digitsOf(number);
    of.providedCount++;
    return of.providedCount;
  }

  public boolean yank(int pack, int version, boolean is) throws IndexOutOfBoundsException {
    checkVersion(pack, version);
    Version of = packs[pack].versions[version];
    boolean was = of.isYanked;
    of.isYanked = is;
    return was;
  }

  public int compare(int pack, int one, int other) throws IndexOutOfBoundsException {
    checkVersion(pack, one);
    checkVersion(pack, other);
    return packs[pack].order(one, other);
  }

  public int within(int pack) throws IndexOutOfBoundsException, IllegalArgumentException {
    checkPack(pack);
    Range range = tapeAsRange();
    Pack of = packs[pack];
    int bits = 0;
    for (int version = 0; version < of.count; version++) {
      if (range.includes(of.versions[version].digits, of.scheme)) {
        bits |= 1 << version;
      }
    }
    return bits;
  }

  // ---- wishes, solutions

  public int wish(int pack, int features)
      throws IndexOutOfBoundsException, IllegalArgumentException, IllegalStateException {
    checkPack(pack);
    checkRange(features, 0, ALL_FEATURES);
    Range range = tapeAsRange();
    checkRoom(wishCount, WISHES);
    wishes[wishCount] = new Need(pack, range, features, ALL_PLATFORMS, NONE);
    wishCount++;
    tape.clear();
    return wishCount;
  }

  public int unwish() {
    int had = wishCount;
    wishCount = 0;
    return had;
  }

  public int policy(int licences) throws IllegalArgumentException {
    checkRange(licences, 0, ALL_LICENCES);
    int was = this.licences;
    this.licences = licences;
    return was;
  }

  public int solve(int platform, int but) throws IndexOutOfBoundsException {
    checkPlatform(platform);
    if (but != NONE) {
      checkPack(but);
    }
    prepareSolver(platform, but == NONE ? 0 : 1 << but);
    isProposed[platform] = solver.seek(allWishes(), Solver.BEST) > 0;
    for (int pack = 0; pack < PACKS; pack++) {
      proposals[platform][pack] = isProposed[platform] ? solver.best[pack] : NONE;
    }
    return isProposed[platform] ? solver.bestChanges : NONE;
  }

  public int proposed(int platform, int pack) throws IndexOutOfBoundsException {
    checkPlatform(platform);
    checkPack(pack);
    return proposals[platform][pack];
  }

  public int closures(int platform) throws IndexOutOfBoundsException {
    checkPlatform(platform);
    prepareSolver(platform, 0);
    return solver.seek(allWishes(), Solver.EACH);
  }

  public int story(int platform) throws IndexOutOfBoundsException {
    checkPlatform(platform);
    prepareSolver(platform, ALL_PACKS);
    // What all wishes have a closure for, fewer have too: then no set is without one.
    if (solver.seek(allWishes(), Solver.ANY) > 0) {
      return NONE;
    }
    for (int size = 1; size < wishCount; size++) {
      for (int asked = 1; asked < allWishes(); asked++) {
        if (Integer.bitCount(asked) == size && solver.seek(asked, Solver.ANY) == 0) {
          return asked;
        }
      }
    }
    return allWishes();
  }

  public int lock(int platform) throws IndexOutOfBoundsException, IllegalStateException {
    checkPlatform(platform);
    if (!isProposed[platform]) {
      throw new IllegalStateException("nothing is proposed");
    }
    int count = 0;
    for (int pack = 0; pack < PACKS; pack++) {
      locks[platform][pack] = proposals[platform][pack];
      count += locks[platform][pack] == NONE ? 0 : 1;
    }
    return count;
  }

  public int locked(int platform, int pack) throws IndexOutOfBoundsException {
    checkPlatform(platform);
    checkPack(pack);
    return locks[platform][pack];
  }

  public boolean holds(int platform) throws IndexOutOfBoundsException {
    checkPlatform(platform);
    prepareSolver(platform, 0);
    return solver.isClosure(allWishes(), locks[platform]);
  }

  public int advise(int pack, int severity)
      throws IndexOutOfBoundsException, IllegalArgumentException, IllegalStateException {
    checkPack(pack);
    checkRange(severity, 1, HIGHEST_SEVERITY);
    Range range = tapeAsRange();
    checkRoom(advisoryCount, ADVISORIES);
    advisories[advisoryCount] = new Advisory(pack, range, severity);
    advisoryCount++;
    tape.clear();
    return advisoryCount;
  }

  public int advised(int platform, int severity)
      throws IndexOutOfBoundsException, IllegalArgumentException {
    checkPlatform(platform);
    checkRange(severity, 1, HIGHEST_SEVERITY);
    int bits = 0;
    for (int i = 0; i < advisoryCount; i++) {
      Advisory advisory = advisories[i];
      int version = locks[platform][advisory.pack];
      if (advisory.severity >= severity && isIncluded(advisory.range, advisory.pack, version)) {
        bits |= 1 << advisory.pack;
      }
    }
    return bits;
  }

  // ---- indexes, mirrors

  public int pass(int minutes) throws IllegalArgumentException, IllegalStateException {
    checkRange(minutes, 0, LONGEST_PASS);
    if (minute + minutes > LAST_MINUTE) {
      throw new IllegalStateException("the last minute is 100000");
    }
    minute += minutes;
    return minute;
  }

  public boolean role(int keys, int threshold, int signed) throws IllegalArgumentException {
    checkRange(keys, 1, ALL_KEYS);
    checkRange(threshold, 1, Integer.bitCount(keys));
    checkRange(signed, 0, ALL_KEYS);
    boolean isChanged = Integer.bitCount(signed & roleKeys) >= roleThreshold
        && Integer.bitCount(signed & keys) >= threshold;
    if (isChanged) {
      roleKeys = keys;
      roleThreshold = threshold;
    }
    return isChanged;
  }

  public int index(int number, int ends, int signed) throws IllegalArgumentException {
    checkRange(number, 0, HIGHEST_INDEX);
    checkRange(ends, 0, LAST_END);
    checkRange(signed, 0, ALL_KEYS);
    if (Integer.bitCount(signed & roleKeys) < roleThreshold) {
      return 1;
    }
    if (number < latestIndex) {
      return 2;
    }
    if (ends <= minute) {
      return 3;
    }
    latestIndex = number;
    return 0;
  }

  public int mirror(int mirror, int pack, int version, int content)
      throws IndexOutOfBoundsException, IllegalArgumentException {
    checkMirror(mirror);
    checkVersion(pack, version);
    if (content != NONE) {
      checkRange(content, 0, HIGHEST_CONTENT);
    }
    Version of = packs[pack].versions[version];
    int gave = of.givenBy(mirror);
    of.told[mirror] = content;
    return gave;
  }

  public boolean shut(int mirror, boolean is) throws IndexOutOfBoundsException {
    checkMirror(mirror);
    boolean was = isShut[mirror];
    isShut[mirror] = is;
    return was;
  }

  public int fetch(int pack, int version) throws IndexOutOfBoundsException {
    checkVersion(pack, version);
    Version of = packs[pack].versions[version];
    if (of.isStored) {
      return FROM_STORE;
    }
    for (int mirror = 0; mirror < MIRRORS; mirror++) {
      if (isShut[mirror]) {
        continue;
      }
      if (of.givenBy(mirror) == of.content) {
        of.isStored = true;
        return mirror;
      }
      lieCounts[mirror]++;
    }
    return NONE;
  }

  public int lies(int mirror) throws IndexOutOfBoundsException {
    checkMirror(mirror);
    return lieCounts[mirror];
  }

  // ---- files, generations

  public int file(int pack, int version, int path, int content, boolean isConfiguration)
      throws IndexOutOfBoundsException, IllegalArgumentException, IllegalStateException {
    checkVersion(pack, version);
    checkRange(path, 0, PATHS - 1);
    checkRange(content, 0, HIGHEST_CONTENT);
    Version of = packs[pack].versions[version];
    if (of.hasFileAt(path)) {
      throw new IllegalArgumentException("it has a file with this path");
    }
    checkRoom(of.fileCount, FILES);
    of.addFile(path, content, isConfiguration);
    return of.fileCount;
  }

  public int divert(int pack, int path, int to)
      throws IndexOutOfBoundsException, IllegalArgumentException {
    if (pack != NONE) {
      checkPack(pack);
    }
    checkRange(path, 0, PATHS - 1);
    checkRange(to, 0, PATHS - 1);
    if (path == to) {
      throw new IllegalArgumentException("a path is diverted to another one");
    }
    return installer.setDiversion(pack, path, to);
  }

  public int install(int platform, int steps)
      throws IndexOutOfBoundsException, IllegalArgumentException {
    checkPlatform(platform);
    checkRange(steps, 0, MOST_STEPS);
    return installer.bring(packs, locks[platform], steps);
  }

  public int steps() {
    return installer.stepsTaken;
  }

  public int edit(int path, int content) throws IllegalArgumentException, IllegalStateException {
    checkRange(path, 0, PATHS - 1);
    checkRange(content, 0, HIGHEST_CONTENT);
    int had = installer.machine.contents[path];
    if (had == NONE) {
      throw new IllegalStateException("the path has nothing");
    }
    installer.machine.contents[path] = content;
    return had;
  }

  public int path(int path, int what) throws IllegalArgumentException {
    checkRange(path, 0, PATHS - 1);
    checkRange(what, 0, 2);
    Machine machine = installer.machine;
    if (what == 0) {
      return machine.contents[path];
    }
    return what == 1 ? machine.owners[path] : machine.packed[path];
  }

  public int installed(int pack) throws IndexOutOfBoundsException {
    checkPack(pack);
    return installer.machine.versions[pack];
  }

  public int aside() {
    return installer.asideCount;
  }

  public boolean run(int generation, boolean is) throws IndexOutOfBoundsException {
    Generation of = keptGeneration(generation);
    boolean was = of.isRunning;
    of.isRunning = is;
    return was;
  }

  public int rollback(int generation) throws IndexOutOfBoundsException {
    return installer.returnTo(keptGeneration(generation));
  }

  public int collect() {
    return installer.sweep();
  }

  public int generation() {
    return installer.current;
  }

  public int generations() {
    return installer.keptCount;
  }

  // ---- what the calls share

  private static int signAt(long characters, int i) {
    return (int) ((characters >>> (8 * i)) & 255);
  }

  private static void checkPack(int pack) {
    if (pack < 0 || pack >= PACKS) {
      throw new IndexOutOfBoundsException("no such package");
    }
  }

  private void checkVersion(int pack, int version) {
    checkPack(pack);
    if (version < 0 || version >= packs[pack].count) {
      throw new IndexOutOfBoundsException("no such version");
    }
  }

  private static void checkPlatform(int platform) {
    if (platform < 0 || platform >= PLATFORMS) {
      throw new IndexOutOfBoundsException("no such platform");
    }
  }

  private static void checkMirror(int mirror) {
    if (mirror < 0 || mirror >= MIRRORS) {
      throw new IndexOutOfBoundsException("no such mirror");
    }
  }

  private static void checkRange(int argument, int least, int most) {
    if (argument < least || argument > most) {
      throw new IllegalArgumentException("an argument is out of range");
    }
  }

  private static void checkOwnFeature(int own) {
    if (own != NONE && own != 1 && own != 2 && own != 4 && own != 8) {
      throw new IllegalArgumentException("the own feature is 1, 2, 4, 8 or NONE");
    }
  }

  private static void checkOther(int pack, int other) {
    if (pack == other) {
      throw new IllegalArgumentException("the other package is its own");
    }
  }

  private static void checkRoom(int count, int most) {
    if (count >= most) {
      throw new IllegalStateException("there is no room for one more");
    }
  }

  private Range tapeAsRange() {
    Range range = tape.readRange();
    if (range == null) {
      throw new IllegalArgumentException("the tape has a fault");
    }
    return range;
  }

  private Generation keptGeneration(int number) {
    Generation generation = installer.keptAs(number);
    if (generation == null) {
      throw new IndexOutOfBoundsException("the generation is not kept");
    }
    return generation;
  }

  private boolean isIncluded(Range range, int pack, int version) {
    return version != NONE
        && range.includes(packs[pack].versions[version].digits, packs[pack].scheme);
  }

  private int allWishes() {
    return (1 << wishCount) - 1;
  }

  private void prepareSolver(int platform, int unlocked) {
    solver.study(packs, wishes, wishCount, platform);
    solver.permit(licences, locks[platform], unlocked);
  }

  /** The characters typed so far, and a reader that goes over them as over a range. */
  private static final class Tape {
    private final char[] text = new char[TAPE];
    int length = 0;
    private int place = 0;
    private boolean isFaulty = false;

    void append(char sign) {
      if (length < TAPE) {
        text[length] = sign;
        length++;
      }
    }

    void clear() {
      length = 0;
    }

    int faultPlace() {
      return readRange() == null ? place : NONE;
    }

    /** Returns null for a text with a fault; the reader stands at its place then. */
    Range readRange() {
      Range range = new Range();
      boolean opensPart = true;
      place = 0;
      isFaulty = false;
      for (int i = 0; i <= TAPE; i++) {
        boolean isAll = opensPart && takes('*');
        range.add(isAll ? new Test(Test.ALL, Test.RELEASE, false, true) : readTest(opensPart));
        boolean goesOn = !isAll && takes(',');
        opensPart = !goesOn && takes('|');
        if (!goesOn && !opensPart) {
          break;
        }
      }
      return isFaulty || place < length ? null : range;
    }

    private Test readTest(boolean opensPart) {
      int kind = readKind();
      int first = readDigit();
      boolean tellsEpoch = takes(':');
      int major = tellsEpoch ? readDigit() : first;
      int epoch = tellsEpoch ? first : 0;
      boolean tellsMinor = takes('.');
      int minor = tellsMinor ? readDigit() : 0;
      int patch = tellsMinor && takes('.') ? readDigit() : 0;
      int preview = takes('-') ? readDigit() : 0;
      int number = (((epoch * 10 + major) * 10 + minor) * 10 + patch) * 10 + preview;
      return new Test(kind, Test.digitsOf(number), tellsMinor, opensPart);
    }

    private int readKind() {
      if (takes('=')) {
        return Test.EQUAL;
      }
      if (takes('>')) {
        return takes('=') ? Test.FROM : Test.ABOVE;
      }
      if (takes('<')) {
        return takes('=') ? Test.UP_TO : Test.BELOW;
      }
      if (takes('^')) {
        return Test.CARET;
      }
      if (takes('~')) {
        return Test.TILDE;
      }
      isFaulty = true;
      return Test.EQUAL;
    }

    private int readDigit() {
      for (char digit = '0'; digit <= '9'; digit++) {
        if (takes(digit)) {
          return digit - '0';
        }
      }
      isFaulty = true;
      return 0;
    }

    // Behind a fault nothing is taken any more, so that the reader stays at its place.
    private boolean takes(char sign) {
      if (isFaulty || place >= length || text[place] != sign) {
        return false;
      }
      place++;
      return true;
    }
  }

  /**
   * One test of a range, or the * for all releases. It knows a version by five hexadecimal digits:
   * epoch, major, minor, patch, and the preview, or RELEASE, which is above all previews. In these
   * a next one has room for its 10.
   */
  private static final class Test {
    static final int ALL = 0;
    static final int EQUAL = 1;
    static final int ABOVE = 2;
    static final int BELOW = 3;
    static final int FROM = 4;
    static final int UP_TO = 5;
    static final int CARET = 6;
    static final int TILDE = 7;

    static final int RELEASE = 10;

    private static final int MAJOR = 0x1000;
    private static final int MINOR = 0x100;
    private static final int PATCH = 0x10;
    private static final int ABOVE_ALL = 0x100000;

    final int digits;
    final boolean opensPart;
    // By schemes: the lowest rank that it accepts, and the lowest one above that it does not.
    final int[] from = new int[LAST + 1];
    final int[] below = new int[LAST + 1];

    Test(int kind, int digits, boolean tellsMinor, boolean opensPart) {
      this.digits = digits;
      this.opensPart = opensPart;
      for (int scheme = NUMBERS; scheme <= LAST; scheme++) {
        int rank = rank(digits, scheme);
        boolean isOpenBelow = kind == ALL || kind == BELOW || kind == UP_TO;
        boolean isOpenAbove = kind == ALL || kind == ABOVE || kind == FROM;
        from[scheme] = isOpenBelow ? 0 : kind == ABOVE ? rank + 1 : rank;
        below[scheme] = isOpenAbove ? ABOVE_ALL : kind == BELOW ? rank : rank + 1;
        if (kind == CARET || kind == TILDE) {
          below[scheme] = rank(next(kind, digits, tellsMinor), scheme);
        }
      }
    }

    static int digitsOf(int number) {
      int digits = number % 10 == 0 ? RELEASE : number % 10;
      digits |= number / 10 % 10 << 4;
      digits |= number / 100 % 10 << 8;
      digits |= number / 1000 % 10 << 12;
      return digits | number / 10000 % 10 << 16;
    }

    /** Of two versions the one that is above has the greater rank; alike ones have the same. */
    static int rank(int digits, int scheme) {
      if (scheme == EPOCHS) {
        return digits;
      }
      if (scheme == LAST) {
        return (digits >> 4 & 15) << 12 | (digits >> 8 & 255) << 4 | digits & 15;
      }
      return digits & 0xFFFF;
    }

    private static int next(int kind, int digits, boolean tellsMinor) {
      boolean hasMajor = (digits >> 12 & 15) != 0;
      boolean hasMinor = (digits >> 8 & 15) != 0;
      int step = kind == CARET && !hasMajor && !hasMinor ? PATCH : MINOR;
      if (kind == CARET ? hasMajor : !tellsMinor) {
        step = MAJOR;
      }
      // All digits behind the one that is 1 more are 0.
      return (digits & -step) + step + RELEASE;
    }

    boolean tellsPreviewOf(int candidate) {
      return (digits & 15) != RELEASE && digits >> 4 == candidate >> 4;
    }
  }

  /** The tests of a text, of all its parts, in their order. */
  private static final class Range {
    private final Test[] tests = new Test[TESTS];
    private int count = 0;

    void add(Test test) {
      if (count < TESTS) {
        tests[count] = test;
        count++;
      }
    }

    boolean includes(int digits, int scheme) {
      int rank = Test.rank(digits, scheme);
      boolean isRelease = (digits & 15) == Test.RELEASE;
      boolean isAccepted = false;
      boolean isTold = false;
      for (int i = 0; i < count; i++) {
        Test test = tests[i];
        if (test.opensPart) {
          if (isAccepted && isTold) {
            return true;
          }
          isAccepted = true;
          isTold = isRelease;
        }
        isAccepted = isAccepted && test.from[scheme] <= rank && rank < test.below[scheme];
        isTold = isTold || test.tellsPreviewOf(digits);
      }
      return isAccepted && isTold;
    }
  }

  private static final class Pack {
    int scheme = NUMBERS;
    final Version[] versions = new Version[VERSIONS];
    int count = 0;

    int order(int one, int other) {
      int byRank = Integer.compare(
          Test.rank(versions[one].digits, scheme), Test.rank(versions[other].digits, scheme));
      return byRank != 0 ? byRank : Integer.compare(one, other);
    }
  }

  private static final class Version {
    final int digits;
    final int features;
    final int licence;
    final int content;
    boolean isYanked = false;
    boolean isStored = false;
    final Need[] needs = new Need[NEEDS];
    int needCount = 0;
    final Need[] conflicts = new Need[CONFLICTS];
    int conflictCount = 0;
    final int[] providedPacks = new int[PROVIDED];
    final int[] providedDigits = new int[PROVIDED];
    int providedCount = 0;
    final int[] filePaths = new int[FILES];
    final int[] fileContents = new int[FILES];
    final boolean[] areConfigurations = new boolean[FILES];
    int fileCount = 0;
    final int[] told = {NONE, NONE, NONE};

    Version(int number, int features, int licence, int content) {
      digits = Test.digitsOf(number);
      this.features = features;
      this.licence = licence;
      this.content = content;
    }

    int givenBy(int mirror) {
      return told[mirror] == NONE ? content : told[mirror];
    }

    boolean provides(int pack, Range range, int scheme) {
      for (int i = 0; i < providedCount; i++) {
        if (providedPacks[i] == pack && range.includes(providedDigits[i], scheme)) {
          return true;
        }
      }
      return false;
    }

    boolean hasFileAt(int path) {
      for (int i = 0; i < fileCount; i++) {
        if (filePaths[i] == path) {
          return true;
        }
      }
      return false;
    }

    void addFile(int path, int fileContent, boolean isConfiguration) {
      if (fileCount < FILES) {
        filePaths[fileCount] = path;
        fileContents[fileCount] = fileContent;
        areConfigurations[fileCount] = isConfiguration;
        fileCount++;
      }
    }
  }

  /** What is asked for of a package, by a version or by a wish; or what a version rules out. */
  private static final class Need {
    final int pack;
    final Range range;
    final int features;
    final int platforms;
    final int own;
    // The versions by which it is met, a bit each; as of the solver's last study.
    int metBy = 0;

    Need(int pack, Range range, int features, int platforms, int own) {
      this.pack = pack;
      this.range = range;
      this.features = features;
      this.platforms = platforms;
      this.own = own;
    }
  }

  private static final class Advisory {
    final int pack;
    final Range range;
    final int severity;

    Advisory(int pack, Range range, int severity) {
      this.pack = pack;
      this.range = range;
      this.severity = severity;
    }
  }

  /**
   * Goes through the choices of versions. A set of versions is an int: the bit 4 * package +
   * version for each.
   */
  private static final class Solver {
    static final int ANY = 0;
    static final int EACH = 1;
    static final int BEST = 2;

    // Each pass but the last one adds a version or a feature: 24 of each there are.
    private static final int PASSES = 64;

    private Pack[] packs = null;
    private Need[] wishes = null;
    private int wishCount = 0;
    private int platformBit = 0;
    private final int[] enemies = new int[ALL_VERSIONS];
    private final int[] counting = new int[PACKS];
    private int permitted = 0;

    private int asked = 0;
    private int goal = ANY;
    // Of the packages from one on: the versions that the search may choose.
    private final int[] open = new int[PACKS + 1];
    private final int[] chosen = new int[PACKS];
    private int choice = 0;
    private int reached = 0;
    private int featuresOn = 0;

    private int found = 0;
    final int[] best = new int[PACKS];
    int bestChanges = 0;
    private int bestSize = 0;

    private static int bitOf(int pack, int version) {
      return 1 << (pack * VERSIONS + version);
    }

    private static int bitsOf(int pack) {
      return VERSION_BITS << (pack * VERSIONS);
    }

    /** Looks anew at which versions meet what, and which cannot stand together. */
    void study(Pack[] packs, Need[] wishes, int wishCount, int platform) {
      this.packs = packs;
      this.wishes = wishes;
      this.wishCount = wishCount;
      platformBit = 1 << platform;
      for (int i = 0; i < ALL_VERSIONS; i++) {
        enemies[i] = 0;
      }
      for (int i = 0; i < wishCount; i++) {
        wishes[i].metBy = meeting(wishes[i]);
      }
      for (int pack = 0; pack < PACKS; pack++) {
        for (int version = 0; version < packs[pack].count; version++) {
          Version of = packs[pack].versions[version];
          for (int i = 0; i < of.needCount; i++) {
            of.needs[i].metBy = meeting(of.needs[i]);
          }
          for (int i = 0; i < of.conflictCount; i++) {
            // What its own package provides does not count.
            part(pack, version, meeting(of.conflicts[i]) & ~bitsOf(pack));
          }
        }
      }
    }

    private void part(int pack, int version, int others) {
      enemies[pack * VERSIONS + version] |= others;
      for (int i = 0; i < ALL_VERSIONS; i++) {
        if ((others >> i & 1) != 0) {
          enemies[i] |= bitOf(pack, version);
        }
      }
    }

    private int meeting(Need need) {
      int scheme = packs[need.pack].scheme;
      int bits = 0;
      for (int pack = 0; pack < PACKS; pack++) {
        for (int version = 0; version < packs[pack].count; version++) {
          Version of = packs[pack].versions[version];
          boolean isMet = pack == need.pack
              ? (need.features & ~of.features) == 0 && need.range.includes(of.digits, scheme)
              : need.features == 0 && of.provides(need.pack, need.range, scheme);
          bits |= isMet ? bitOf(pack, version) : 0;
        }
      }
      return bits;
    }

    /** Tells which versions may be chosen, and the lock, but for the packages that are unlocked. */
    void permit(int licences, int[] lock, int unlocked) {
      permitted = 0;
      for (int pack = 0; pack < PACKS; pack++) {
        counting[pack] = (unlocked >> pack & 1) != 0 ? NONE : lock[pack];
        for (int version = 0; version < packs[pack].count; version++) {
          Version of = packs[pack].versions[version];
          boolean isLicensed = (licences >> of.licence & 1) != 0;
          if (isLicensed && (!of.isYanked || counting[pack] == version)) {
            permitted |= bitOf(pack, version);
          }
        }
      }
    }

    /** Returns how many closures it came by, for the wishes that are asked for; 0 without any. */
    int seek(int asked, int goal) {
      this.asked = asked;
      this.goal = goal;
      found = 0;
      choice = 0;
      int pool = withinReach();
      open[PACKS] = 0;
      for (int pack = PACKS - 1; pack >= 0; pack--) {
        chosen[pack] = NONE;
        open[pack] = open[pack + 1] | (pool & bitsOf(pack));
      }
      search(0, 0, 0);
      return found;
    }

    boolean isClosure(int asked, int[] versions) {
      this.asked = asked;
      choice = 0;
      boolean isFree = true;
      for (int pack = 0; pack < PACKS; pack++) {
        chosen[pack] = versions[pack];
        if (chosen[pack] != NONE) {
          isFree = isFree && (enemies[pack * VERSIONS + chosen[pack]] & choice) == 0;
          choice |= bitOf(pack, chosen[pack]);
        }
      }
      return isFree && (choice & ~permitted) == 0 && areMet(0, choice) && reached == choice;
    }

    // What no wish can lead to, were all features on, is in no closure: it need not be tried.
    private int withinReach() {
      int reach = 0;
      for (int i = 0; i < wishCount; i++) {
        if ((asked >> i & 1) != 0) {
          reach |= wishes[i].metBy & permitted;
        }
      }
      for (int pass = 0; pass < PASSES; pass++) {
        int before = reach;
        for (int i = 0; i < ALL_VERSIONS; i++) {
          if ((reach >> i & 1) != 0) {
            reach |= leadingTo(packs[i / VERSIONS].versions[i % VERSIONS]) & permitted;
          }
        }
        if (reach == before) {
          break;
        }
      }
      return reach;
    }

    private int leadingTo(Version of) {
      int bits = 0;
      for (int i = 0; i < of.needCount; i++) {
        if ((of.needs[i].platforms & platformBit) != 0) {
          bits |= of.needs[i].metBy;
        }
      }
      return bits;
    }

    // None of a package goes first, then its versions from the greatest on: so of alike solutions
    // the first one is the one that is due.
    private void search(int pack, int changes, int size) {
      if (isSettled(changes, size)) {
        return;
      }
      if (pack >= PACKS) {
        if (areMet(0, choice) && reached == choice) {
          record(changes, size);
        }
        return;
      }
      // In the end all that are chosen must be reached, and what they need must be met, by what is
      // chosen already or may still be.
      if (!areMet(choice, choice | open[pack])) {
        return;
      }
      branch(pack, NONE, changes, size);
      int left = (open[pack] & bitsOf(pack)) >> (pack * VERSIONS);
      for (int i = 0; i < VERSIONS && left != 0; i++) {
        int version = greatest(pack, left);
        left &= ~(1 << version);
        if ((enemies[pack * VERSIONS + version] & choice) == 0) {
          branch(pack, version, changes, size);
        }
      }
    }

    private void branch(int pack, int version, int changes, int size) {
      int bit = version == NONE ? 0 : bitOf(pack, version);
      boolean isChange = counting[pack] != NONE && counting[pack] != version;
      chosen[pack] = version;
      choice |= bit;
      search(pack + 1, isChange ? changes + 1 : changes, version == NONE ? size : size + 1);
      choice &= ~bit;
      chosen[pack] = NONE;
    }

    private int greatest(int pack, int versions) {
      int greatest = NONE;
      for (int version = 0; version < packs[pack].count; version++) {
        boolean isOne = (versions >> version & 1) != 0;
        if (isOne && (greatest == NONE || packs[pack].order(version, greatest) > 0)) {
          greatest = version;
        }
      }
      return greatest == NONE ? 0 : greatest;
    }

    // Changes and packages only become more on the way, so what is no better now never will be.
    private boolean isSettled(int changes, int size) {
      if (found == 0 || goal == EACH) {
        return false;
      }
      return goal == ANY || changes > bestChanges || changes == bestChanges && size >= bestSize;
    }

    private void record(int changes, int size) {
      found++;
      bestChanges = changes;
      bestSize = size;
      for (int pack = 0; pack < PACKS; pack++) {
        best[pack] = chosen[pack];
      }
    }

    /**
     * Follows the wishes, and the active needs of what is reached, to the versions of the pool by
     * which they are met; returns whether each of them is.
     */
    private boolean areMet(int reachedAtFirst, int pool) {
      reached = reachedAtFirst;
      featuresOn = 0;
      for (int i = 0; i < wishCount; i++) {
        if ((asked >> i & 1) != 0 && !isMet(wishes[i], pool)) {
          return false;
        }
      }
      for (int pass = 0; pass < PASSES; pass++) {
        int reachedBefore = reached;
        int onBefore = featuresOn;
        for (int pack = 0; pack < PACKS; pack++) {
          if (isReached(pack) && !hasNeedsMet(pack, pool)) {
            return false;
          }
        }
        if (reached == reachedBefore && featuresOn == onBefore) {
          break;
        }
      }
      return true;
    }

    private boolean isReached(int pack) {
      return chosen[pack] != NONE && (reached & bitOf(pack, chosen[pack])) != 0;
    }

    private boolean hasNeedsMet(int pack, int pool) {
      Version of = packs[pack].versions[chosen[pack]];
      for (int i = 0; i < of.needCount; i++) {
        Need need = of.needs[i];
        int on = featuresOn >> (pack * FEATURE_BITS);
        boolean isOn = need.own == NONE || (on & need.own) != 0;
        if (isOn && (need.platforms & platformBit) != 0 && !isMet(need, pool)) {
          return false;
        }
      }
      return true;
    }

    // Features that are asked for are met by a version of that very package: it is chosen then.
    private boolean isMet(Need need, int pool) {
      int met = need.metBy & pool;
      reached |= met;
      featuresOn |= need.features << (need.pack * FEATURE_BITS);
      return met != 0;
    }
  }

  /** What is on a machine: the versions of packages, and of each path what it has. */
  private static final class Machine {
    final int[] versions = new int[PACKS];
    final int[] contents = new int[PATHS];
    final int[] owners = new int[PATHS];
    final int[] packed = new int[PATHS];

    Machine() {
      for (int pack = 0; pack < PACKS; pack++) {
        versions[pack] = NONE;
      }
      for (int path = 0; path < PATHS; path++) {
        contents[path] = NONE;
        owners[path] = NONE;
        packed[path] = NONE;
      }
    }

    /** Returns how many paths are otherwise then. */
    int becomeLike(Machine other) {
      int count = 0;
      for (int path = 0; path < PATHS; path++) {
        boolean isSame = contents[path] == other.contents[path]
            && owners[path] == other.owners[path]
            && packed[path] == other.packed[path];
        count += isSame ? 0 : 1;
        put(path, other.contents[path], other.owners[path], other.packed[path]);
      }
      for (int pack = 0; pack < PACKS; pack++) {
        versions[pack] = other.versions[pack];
      }
      return count;
    }

    void put(int path, int content, int owner, int packedContent) {
      contents[path] = content;
      owners[path] = owner;
      packed[path] = packedContent;
    }
  }

  private static final class Generation {
    int number = NONE;
    boolean isRunning = false;
    final Machine kept = new Machine();
  }

  private static final class Installer {
    final Machine machine = new Machine();
    // By rising numbers; the rows behind those that are kept wait to be used again.
    private final Generation[] rows = new Generation[KEPT];
    int keptCount = 0;
    int current = NONE;
    private int nextNumber = 0;
    int stepsTaken = 0;
    int asideCount = 0;
    private final int[] divertedFor = new int[PATHS];
    private final int[] divertedTo = new int[PATHS];
    private final boolean[] isTarget = new boolean[PATHS];

    Installer() {
      for (int i = 0; i < KEPT; i++) {
        rows[i] = new Generation();
      }
      for (int path = 0; path < PATHS; path++) {
        divertedFor[path] = NONE;
        divertedTo[path] = NONE;
      }
    }

    int setDiversion(int pack, int path, int to) {
      divertedFor[path] = pack;
      divertedTo[path] = pack == NONE ? NONE : to;
      int count = 0;
      for (int i = 0; i < PATHS; i++) {
        count += divertedFor[i] == NONE ? 0 : 1;
      }
      return count;
    }

    private int targetOf(int pack, int path) {
      return divertedFor[path] == NONE || divertedFor[path] == pack ? path : divertedTo[path];
    }

    // What is cut off leaves all as it was: so the steps are counted first, and only taken if the
    // last one of them is.
    int bring(Pack[] packs, int[] lock, int limit) {
      int files = aim(packs, lock);
      if (files == NONE) {
        return TWO_ON_ONE_PATH;
      }
      if (keptCount >= KEPT && leastToGo() == NONE) {
        return NONE_CAN_GO;
      }
      int steps = countStrays() + files + 1;
      stepsTaken = Math.min(steps, limit);
      if (limit < steps) {
        return NONE;
      }
      clearStrays();
      for (int pack = 0; pack < PACKS; pack++) {
        machine.versions[pack] = lock[pack];
        if (lock[pack] != NONE) {
          layFiles(pack, packs[pack].versions[lock[pack]]);
        }
      }
      keep();
      return current;
    }

    /** Returns how many files come, and marks where; NONE if two come to one path. */
    private int aim(Pack[] packs, int[] lock) {
      int count = 0;
      for (int path = 0; path < PATHS; path++) {
        isTarget[path] = false;
      }
      for (int pack = 0; pack < PACKS; pack++) {
        if (lock[pack] == NONE) {
          continue;
        }
        Version of = packs[pack].versions[lock[pack]];
        for (int i = 0; i < of.fileCount; i++) {
          int target = targetOf(pack, of.filePaths[i]);
          if (isTarget[target]) {
            return NONE;
          }
          isTarget[target] = true;
          count++;
        }
      }
      return count;
    }

    private boolean isStray(int path) {
      return machine.contents[path] != NONE && !isTarget[path];
    }

    private int countStrays() {
      int count = 0;
      for (int path = 0; path < PATHS; path++) {
        count += isStray(path) ? 1 : 0;
      }
      return count;
    }

    private void clearStrays() {
      for (int path = 0; path < PATHS; path++) {
        if (isStray(path)) {
          machine.put(path, NONE, NONE, NONE);
        }
      }
    }

    private void layFiles(int pack, Version of) {
      for (int i = 0; i < of.fileCount; i++) {
        int path = targetOf(pack, of.filePaths[i]);
        int content = of.fileContents[i];
        int there = machine.contents[path];
        int packedThere = machine.packed[path];
        boolean isGuarded = of.areConfigurations[i] && machine.owners[path] == pack;
        boolean stays = isGuarded && there != packedThere;
        if (stays && packedThere != content) {
          asideCount++;
        }
        machine.put(path, stays ? there : content, pack, content);
      }
    }

    private void keep() {
      if (keptCount >= KEPT) {
        drop(leastToGo());
      }
      if (keptCount < KEPT) {
        Generation latest = rows[keptCount];
        keptCount++;
        latest.number = nextNumber;
        latest.isRunning = false;
        latest.kept.becomeLike(machine);
        current = nextNumber;
        nextNumber++;
      }
    }

    private boolean canGo(int row) {
      return !rows[row].isRunning && rows[row].number != current;
    }

    private int leastToGo() {
      for (int row = 0; row < keptCount; row++) {
        if (canGo(row)) {
          return row;
        }
      }
      return NONE;
    }

    private void drop(int row) {
      if (row < 0 || row >= keptCount) {
        return;
      }
      Generation gone = rows[row];
      for (int i = row; i + 1 < keptCount; i++) {
        rows[i] = rows[i + 1];
      }
      keptCount--;
      rows[keptCount] = gone;
    }

    Generation keptAs(int number) {
      for (int row = 0; row < keptCount; row++) {
        if (rows[row].number == number) {
          return rows[row];
        }
      }
      return null;
    }

    int returnTo(Generation generation) {
      current = generation.number;
      return machine.becomeLike(generation.kept);
    }

    int sweep() {
      int had = keptCount;
      for (int row = had - 1; row >= 0; row--) {
        if (canGo(row)) {
          drop(row);
        }
      }
      return had - keptCount;
    }
  }
}
