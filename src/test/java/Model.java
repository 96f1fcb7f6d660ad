import java.util.ArrayList;
import java.util.Collections;
import java.util.Comparator;
import java.util.HashMap;
import java.util.HashSet;
import java.util.IdentityHashMap;
import java.util.List;
import java.util.Map;
import java.util.Set;
import java.util.TreeMap;
import java.util.regex.Matcher;
import java.util.regex.Pattern;

/**
 * The document told once more, as slowly and as near to its words as can be, to compare the
 * program with. It shares no code and no way of going about it with the program.
 */
final class Model {
  private static final int NONE = -1;
  private static final String VERSION = "(?:(\\d):)?(\\d)(?:\\.(\\d)(?:\\.(\\d))?)?(?:-(\\d))?";
  private static final String TEST = "(?:=|>=|<=|>|<|\\^|~)" + "(?:\\d:)?\\d(?:\\.\\d(?:\\.\\d)?)?(?:-\\d)?";
  private static final String PART = "(?:\\*|" + TEST + "(?:," + TEST + ")*)";
  private static final Pattern RANGE = Pattern.compile(PART + "(?:\\|" + PART + ")*");
  private static final Pattern ONE_TEST = Pattern.compile("(>=|<=|=|>|<|\\^|~)" + VERSION);

  record Wanted(int pack, String range, int features, int platforms, int own) { }

  record Given(int pack, int number) { }

  record Packed(int path, int content, boolean isConfiguration) { }

  record Spot(int content, int owner, int packed) { }

  record Kept(Map<Integer, Integer> versions, Map<Integer, Spot> spots) { }

  record Warned(int pack, String range, int severity) { }

  static final class Release {
    int pack;
    int place;
    int number;
    int features;
    int licence;
    int content;
    boolean yanked;
    boolean stored;
    final List<Wanted> needs = new ArrayList<>();
    final List<Wanted> conflicts = new ArrayList<>();
    final List<Given> gives = new ArrayList<>();
    final List<Packed> files = new ArrayList<>();
    final Map<Integer, Integer> mirrored = new HashMap<>();
  }

  private String tape = "";
  private final int[] schemes = new int[6];
  private final List<List<Release>> packs = new ArrayList<>();
  private final List<Wanted> wishes = new ArrayList<>();
  private int policy = 15;
  private final List<Map<Integer, Integer>> locks = new ArrayList<>();
  private final List<Map<Integer, Integer>> proposals = new ArrayList<>();
  private final List<Warned> advisories = new ArrayList<>();
  private int minute = 0;
  private Set<Integer> roleKeys = Set.of(0);
  private int threshold = 1;
  private int lastIndex = 0;
  private final boolean[] shut = new boolean[3];
  private final int[] lies = new int[3];
  private final Map<Integer, int[]> diversions = new HashMap<>();
  private Map<Integer, Integer> versions = new HashMap<>();
  private Map<Integer, Spot> spots = new HashMap<>();
  private int steps = 0;
  private int aside = 0;
  private final TreeMap<Integer, Kept> generations = new TreeMap<>();
  private final Set<Integer> running = new HashSet<>();
  private int made = 0;
  private int current = NONE;

  Model() {
    for (int i = 0; i < 6; i++) {
      packs.add(new ArrayList<>());
    }
    for (int i = 0; i < 3; i++) {
      locks.add(new HashMap<>());
      proposals.add(null);
    }
  }

  // ---- refusals

  private static void place(boolean isThere) {
    if (!isThere) {
      throw new IndexOutOfBoundsException();
    }
  }

  private static void argument(boolean isRight) {
    if (!isRight) {
      throw new IllegalArgumentException();
    }
  }

  private static void state(boolean isRight) {
    if (!isRight) {
      throw new IllegalStateException();
    }
  }

  private static boolean in(int least, int number, int most) {
    return least <= number && number <= most;
  }

  private Release release(int pack, int version) {
    place(in(0, pack, 5));
    place(in(0, version, packs.get(pack).size() - 1));
    return packs.get(pack).get(version);
  }

  private boolean faulty() {
    return !RANGE.matcher(tape).matches();
  }

  private String takeTape() {
    String text = tape;
    tape = "";
    return text;
  }

  // ---- the tape

  int type(long characters, int n) {
    argument(in(1, n, 8));
    StringBuilder typed = new StringBuilder();
    for (int i = 0; i < n; i++) {
      int sign = (int) (characters >> 8 * i & 0xFF);
      argument(in(33, sign, 126));
      typed.append((char) sign);
    }
    state(tape.length() + n <= 40);
    tape += typed;
    return tape.length();
  }

  int wipe() {
    return takeTape().length();
  }

  int fault() {
    for (int end = 1; end <= tape.length(); end++) {
      Matcher matcher = RANGE.matcher(tape.substring(0, end));
      if (!matcher.matches() && !matcher.hitEnd()) {
        return end - 1;
      }
    }
    return faulty() ? tape.length() : NONE;
  }

  // ---- versions, ranges

  /** What is compared, by a scheme; a next one may have a 10. */
  private static List<Integer> key(int scheme, int epoch, int major, int minor, int patch, int preview) {
    int last = preview == 0 ? 99 : preview;
    return switch (scheme) {
      case 0 -> List.of(major, minor, patch, last);
      case 1 -> List.of(epoch, major, minor, patch, last);
      default -> List.of(patch, major, minor, last);
    };
  }

  private static int compareKeys(List<Integer> one, List<Integer> other) {
    for (int i = 0; i < one.size(); i++) {
      if (!one.get(i).equals(other.get(i))) {
        return one.get(i) < other.get(i) ? -1 : 1;
      }
    }
    return 0;
  }

  private static List<Integer> key(int scheme, int number) {
    String digits = String.format("%05d", number);
    return key(scheme, digits.charAt(0) - '0', digits.charAt(1) - '0', digits.charAt(2) - '0',
        digits.charAt(3) - '0', digits.charAt(4) - '0');
  }

  private static int digit(String group) {
    return group == null ? 0 : Integer.parseInt(group);
  }

  private static boolean testHolds(String test, int scheme, int number) {
    Matcher m = ONE_TEST.matcher(test);
    m.matches();
    int epoch = digit(m.group(2));
    int major = digit(m.group(3));
    int minor = digit(m.group(4));
    int patch = digit(m.group(5));
    List<Integer> that = key(scheme, epoch, major, minor, patch, digit(m.group(6)));
    int above = compareKeys(key(scheme, number), that);
    List<Integer> next = null;
    switch (m.group(1)) {
      case "=": return above == 0;
      case ">": return above > 0;
      case "<": return above < 0;
      case ">=": return above >= 0;
      case "<=": return above <= 0;
      case "^":
        if (major > 0) {
          next = key(scheme, epoch, major + 1, 0, 0, 0);
        } else if (minor > 0) {
          next = key(scheme, epoch, 0, minor + 1, 0, 0);
        } else {
          next = key(scheme, epoch, 0, 0, patch + 1, 0);
        }
        break;
      default:
        next = m.group(4) != null
            ? key(scheme, epoch, major, minor + 1, 0, 0)
            : key(scheme, epoch, major + 1, 0, 0, 0);
    }
    return above >= 0 && compareKeys(key(scheme, number), next) < 0;
  }

  private static boolean partHolds(String part, int scheme, int number) {
    boolean isPreview = number % 10 != 0;
    if (part.equals("*")) {
      return !isPreview;
    }
    boolean isTold = false;
    for (String test : part.split(",")) {
      if (!testHolds(test, scheme, number)) {
        return false;
      }
      Matcher m = ONE_TEST.matcher(test);
      m.matches();
      String four = "" + digit(m.group(2)) + digit(m.group(3)) + digit(m.group(4)) + digit(m.group(5));
      isTold |= digit(m.group(6)) != 0 && four.equals(String.format("%05d", number).substring(0, 4));
    }
    return !isPreview || isTold;
  }

  private static boolean rangeHolds(String range, int scheme, int number) {
    for (String part : range.split("\\|")) {
      if (partHolds(part, scheme, number)) {
        return true;
      }
    }
    return false;
  }

  int scheme(int pack, int scheme) {
    place(in(0, pack, 5));
    argument(in(0, scheme, 2));
    int was = schemes[pack];
    schemes[pack] = scheme;
    return was;
  }

  int version(int pack, int number, int features, int licence, int content) {
    place(in(0, pack, 5));
    argument(in(0, number, 99999) && in(0, features, 15) && in(0, licence, 3));
    argument(in(0, content, 999));
    state(packs.get(pack).size() < 4);
    Release release = new Release();
    release.pack = pack;
    release.place = packs.get(pack).size();
    release.number = number;
    release.features = features;
    release.licence = licence;
    release.content = content;
    packs.get(pack).add(release);
    return release.place;
  }

  int need(int pack, int version, int other, int features, int platforms, int own) {
    Release release = release(pack, version);
    place(in(0, other, 5));
    argument(in(0, features, 15) && in(1, platforms, 7));
    argument(List.of(NONE, 1, 2, 4, 8).contains(own));
    argument(other != pack && !faulty());
    state(release.needs.size() < 4);
    release.needs.add(new Wanted(other, takeTape(), features, platforms, own));
    return release.needs.size();
  }

  int conflict(int pack, int version, int other) {
    Release release = release(pack, version);
    place(in(0, other, 5));
    argument(other != pack && !faulty());
    state(release.conflicts.size() < 2);
    release.conflicts.add(new Wanted(other, takeTape(), 0, 7, NONE));
    return release.conflicts.size();
  }

  int provide(int pack, int version, int other, int number) {
    Release release = release(pack, version);
    place(in(0, other, 5));
    argument(other != pack && in(0, number, 99999));
    state(release.gives.size() < 2);
    release.gives.add(new Given(other, number));
    return release.gives.size();
  }

  boolean yank(int pack, int version, boolean is) {
    Release release = release(pack, version);
    boolean was = release.yanked;
    release.yanked = is;
    return was;
  }

  int compare(int pack, int one, int other) {
    Release first = release(pack, one);
    Release second = release(pack, other);
    int byKey = compareKeys(key(schemes[pack], first.number), key(schemes[pack], second.number));
    return byKey != 0 ? byKey : Integer.signum(one - other);
  }

  int within(int pack) {
    place(in(0, pack, 5));
    argument(!faulty());
    int bits = 0;
    for (Release release : packs.get(pack)) {
      bits += rangeHolds(tape, schemes[pack], release.number) ? 1 << release.place : 0;
    }
    return bits;
  }

  // ---- wishes, solutions

  int wish(int pack, int features) {
    place(in(0, pack, 5));
    argument(in(0, features, 15) && !faulty());
    state(wishes.size() < 4);
    wishes.add(new Wanted(pack, takeTape(), features, 7, NONE));
    return wishes.size();
  }

  int unwish() {
    int had = wishes.size();
    wishes.clear();
    return had;
  }

  int policy(int licences) {
    argument(in(0, licences, 15));
    int was = policy;
    policy = licences;
    return was;
  }

  private final Map<String, Boolean> rangeMemory = new HashMap<>();

  private boolean holdsOf(String range, int pack, int number) {
    String question = range + " " + schemes[pack] + " " + number;
    return rangeMemory.computeIfAbsent(question, q -> rangeHolds(range, schemes[pack], number));
  }

  private boolean provides(Release release, Wanted wanted) {
    return release.gives.stream()
        .anyMatch(g -> g.pack == wanted.pack && holdsOf(wanted.range, g.pack, g.number));
  }

  private List<Release> meeting(Wanted wanted, List<Release> choice) {
    List<Release> list = new ArrayList<>();
    for (Release release : choice) {
      boolean isOwn = release.pack == wanted.pack
          && holdsOf(wanted.range, wanted.pack, release.number)
          && (release.features & wanted.features) == wanted.features;
      if (isOwn || wanted.features == 0 && provides(release, wanted)) {
        list.add(release);
      }
    }
    return list;
  }

  private boolean isClosure(int platform, List<Wanted> asked, List<Release> choice, Map<Integer, Integer> lock) {
    for (Release release : choice) {
      boolean isLocked = lock.getOrDefault(release.pack, NONE) == release.place;
      if ((policy >> release.licence & 1) == 0 || release.yanked && !isLocked) {
        return false;
      }
      for (Wanted conflict : release.conflicts) {
        for (Release other : choice) {
          boolean isHit = other.pack == conflict.pack && holdsOf(conflict.range, other.pack, other.number);
          if (isHit || other.pack != release.pack && provides(other, conflict)) {
            return false;
          }
        }
      }
    }
    return isReachedAndMet(platform, asked, choice);
  }

  private boolean isReachedAndMet(int platform, List<Wanted> asked, List<Release> choice) {
    Set<Release> reached = new HashSet<>();
    Set<Integer> on = new HashSet<>();
    Set<Wanted> active = Collections.newSetFromMap(new IdentityHashMap<>());
    active.addAll(asked);
    for (boolean changes = true; changes;) {
      int before = reached.size() + on.size() + active.size();
      for (Wanted wanted : active) {
        reached.addAll(meeting(wanted, choice));
        boolean isThere = choice.stream().anyMatch(r -> r.pack == wanted.pack);
        for (int bit = 1; bit <= 8 && isThere; bit *= 2) {
          if ((wanted.features & bit) != 0) {
            on.add(wanted.pack * 100 + bit);
          }
        }
      }
      for (Release release : reached) {
        for (Wanted need : release.needs) {
          boolean isOn = need.own == NONE || on.contains(release.pack * 100 + need.own);
          if (isOn && (need.platforms >> platform & 1) == 1) {
            active.add(need);
          }
        }
      }
      changes = reached.size() + on.size() + active.size() > before;
    }
    return reached.size() == choice.size()
        && active.stream().noneMatch(wanted -> meeting(wanted, choice).isEmpty());
  }

  private List<List<Release>> closuresOf(int platform, List<Wanted> asked, Map<Integer, Integer> lock) {
    List<List<Release>> choices = new ArrayList<>();
    choices.add(new ArrayList<>());
    for (int pack = 0; pack < 6; pack++) {
      List<List<Release>> longer = new ArrayList<>(choices);
      for (List<Release> choice : choices) {
        for (Release release : packs.get(pack)) {
          List<Release> more = new ArrayList<>(choice);
          more.add(release);
          longer.add(more);
        }
      }
      choices = longer;
    }
    choices.removeIf(choice -> !isClosure(platform, asked, choice, lock));
    return choices;
  }

  private static int versionOf(List<Release> choice, int pack) {
    for (Release release : choice) {
      if (release.pack == pack) {
        return release.place;
      }
    }
    return NONE;
  }

  private static int changes(List<Release> choice, Map<Integer, Integer> lock) {
    int count = 0;
    for (int pack : lock.keySet()) {
      count += versionOf(choice, pack) == lock.get(pack) ? 0 : 1;
    }
    return count;
  }

  int solve(int platform, int but) {
    place(in(0, platform, 2));
    place(in(-1, but, 5));
    Map<Integer, Integer> lock = new HashMap<>(locks.get(platform));
    lock.remove(but);
    List<List<Release>> closures = closuresOf(platform, wishes, lock);
    Comparator<List<Release>> order = Comparator.comparingInt(choice -> changes(choice, lock));
    order = order.thenComparingInt(List::size);
    for (int pack = 0; pack < 6; pack++) {
      int of = pack;
      order = order.thenComparing((a, b) -> {
        int one = versionOf(a, of);
        int other = versionOf(b, of);
        if (one == NONE || other == NONE) {
          return Integer.compare(one == NONE ? 0 : 1, other == NONE ? 0 : 1);
        }
        return compare(of, other, one);
      });
    }
    if (closures.isEmpty()) {
      proposals.set(platform, null);
      return NONE;
    }
    List<Release> best = Collections.min(closures, order);
    Map<Integer, Integer> proposal = new HashMap<>();
    best.forEach(release -> proposal.put(release.pack, release.place));
    proposals.set(platform, proposal);
    return changes(best, lock);
  }

  int proposed(int platform, int pack) {
    place(in(0, platform, 2) && in(0, pack, 5));
    Map<Integer, Integer> proposal = proposals.get(platform);
    return proposal == null ? NONE : proposal.getOrDefault(pack, NONE);
  }

  int closures(int platform) {
    place(in(0, platform, 2));
    return closuresOf(platform, wishes, locks.get(platform)).size();
  }

  int story(int platform) {
    place(in(0, platform, 2));
    int best = NONE;
    for (int bits = 0; bits < 1 << wishes.size(); bits++) {
      List<Wanted> asked = new ArrayList<>();
      for (int i = 0; i < wishes.size(); i++) {
        if ((bits >> i & 1) == 1) {
          asked.add(wishes.get(i));
        }
      }
      boolean isFewer = best == NONE || Integer.bitCount(bits) < Integer.bitCount(best);
      if (isFewer && closuresOf(platform, asked, Map.of()).isEmpty()) {
        best = bits;
      }
    }
    return best;
  }

  int lock(int platform) {
    place(in(0, platform, 2));
    state(proposals.get(platform) != null);
    locks.set(platform, new HashMap<>(proposals.get(platform)));
    return locks.get(platform).size();
  }

  int locked(int platform, int pack) {
    place(in(0, platform, 2) && in(0, pack, 5));
    return locks.get(platform).getOrDefault(pack, NONE);
  }

  private List<Release> lockedReleases(int platform) {
    List<Release> choice = new ArrayList<>();
    locks.get(platform).forEach((pack, version) -> choice.add(packs.get(pack).get(version)));
    choice.sort(Comparator.comparingInt(release -> release.pack));
    return choice;
  }

  boolean holds(int platform) {
    place(in(0, platform, 2));
    return isClosure(platform, wishes, lockedReleases(platform), locks.get(platform));
  }

  int advise(int pack, int severity) {
    place(in(0, pack, 5));
    argument(in(1, severity, 9) && !faulty());
    state(advisories.size() < 6);
    advisories.add(new Warned(pack, takeTape(), severity));
    return advisories.size();
  }

  int advised(int platform, int severity) {
    place(in(0, platform, 2));
    argument(in(1, severity, 9));
    int bits = 0;
    for (Release release : lockedReleases(platform)) {
      if (advisories.stream().anyMatch(a -> a.pack == release.pack && a.severity >= severity
          && rangeHolds(a.range, schemes[a.pack], release.number))) {
        bits |= 1 << release.pack;
      }
    }
    return bits;
  }

  // ---- indexes, mirrors

  int pass(int minutes) {
    argument(in(0, minutes, 1000));
    state(minute + minutes <= 100000);
    return minute += minutes;
  }

  private static Set<Integer> keys(int bits) {
    Set<Integer> keys = new HashSet<>();
    for (int key = 0; key < 5; key++) {
      if ((bits >> key & 1) == 1) {
        keys.add(key);
      }
    }
    return keys;
  }

  private static boolean isSigned(Set<Integer> keys, int threshold, int signed) {
    Set<Integer> common = new HashSet<>(keys);
    common.retainAll(keys(signed));
    return common.size() >= threshold;
  }

  boolean role(int bits, int threshold, int signed) {
    argument(in(1, bits, 31) && in(1, threshold, keys(bits).size()) && in(0, signed, 31));
    if (!isSigned(roleKeys, this.threshold, signed) || !isSigned(keys(bits), threshold, signed)) {
      return false;
    }
    roleKeys = keys(bits);
    this.threshold = threshold;
    return true;
  }

  int index(int number, int ends, int signed) {
    argument(in(0, number, 9999) && in(0, ends, 200000) && in(0, signed, 31));
    if (!isSigned(roleKeys, threshold, signed)) {
      return 1;
    } else if (number < lastIndex) {
      return 2;
    } else if (ends <= minute) {
      return 3;
    }
    lastIndex = number;
    return 0;
  }

  int mirror(int mirror, int pack, int version, int content) {
    place(in(0, mirror, 2));
    Release release = release(pack, version);
    argument(in(-1, content, 999));
    int gave = release.mirrored.getOrDefault(mirror, release.content);
    if (content == NONE) {
      release.mirrored.remove(mirror);
    } else {
      release.mirrored.put(mirror, content);
    }
    return gave;
  }

  boolean shut(int mirror, boolean is) {
    place(in(0, mirror, 2));
    boolean was = shut[mirror];
    shut[mirror] = is;
    return was;
  }

  int fetch(int pack, int version) {
    Release release = release(pack, version);
    if (release.stored) {
      return 3;
    }
    for (int mirror = 0; mirror < 3 && !release.stored; mirror++) {
      if (!shut[mirror]) {
        release.stored = release.mirrored.getOrDefault(mirror, release.content) == release.content;
        if (release.stored) {
          return mirror;
        }
        lies[mirror]++;
      }
    }
    return NONE;
  }

  int lies(int mirror) {
    place(in(0, mirror, 2));
    return lies[mirror];
  }

  // ---- files, generations

  int file(int pack, int version, int path, int content, boolean isConfiguration) {
    Release release = release(pack, version);
    argument(in(0, path, 15) && in(0, content, 999));
    argument(release.files.stream().noneMatch(file -> file.path == path));
    state(release.files.size() < 3);
    release.files.add(new Packed(path, content, isConfiguration));
    return release.files.size();
  }

  int divert(int pack, int path, int to) {
    place(in(-1, pack, 5));
    argument(in(0, path, 15) && in(0, to, 15) && path != to);
    diversions.remove(path);
    if (pack != NONE) {
      diversions.put(path, new int[] {pack, to});
    }
    return diversions.size();
  }

  private int comesTo(int pack, int path) {
    int[] diversion = diversions.get(path);
    return diversion != null && diversion[0] != pack ? diversion[1] : path;
  }

  int install(int platform, int limit) {
    place(in(0, platform, 2));
    argument(in(0, limit, 99));
    List<Release> releases = lockedReleases(platform);
    Set<Integer> targets = new HashSet<>();
    for (Release release : releases) {
      for (Packed file : release.files) {
        if (!targets.add(comesTo(release.pack, file.path))) {
          return -2;
        }
      }
    }
    List<Integer> free = new ArrayList<>(generations.keySet());
    free.removeAll(running);
    free.remove(Integer.valueOf(current));
    if (generations.size() == 6 && free.isEmpty()) {
      return -3;
    }
    Map<Integer, Spot> spotsBefore = new HashMap<>(spots);
    int asideBefore = aside;
    List<Runnable> todo = new ArrayList<>();
    for (int path = 0; path < 16; path++) {
      int of = path;
      if (spots.containsKey(path) && !targets.contains(path)) {
        todo.add(() -> spots.remove(of));
      }
    }
    for (Release release : releases) {
      release.files.forEach(file -> todo.add(() -> lay(release.pack, file)));
    }
    todo.add(() -> keep(releases, free));
    for (steps = 0; steps < todo.size(); steps++) {
      if (steps == limit) {
        spots = spotsBefore;
        aside = asideBefore;
        return NONE;
      }
      todo.get(steps).run();
    }
    return current;
  }

  private void lay(int pack, Packed file) {
    int path = comesTo(pack, file.path);
    Spot there = spots.get(path);
    int content = file.content;
    if (file.isConfiguration && there != null && there.owner == pack && there.content != there.packed) {
      content = there.content;
      aside += there.packed != file.content ? 1 : 0;
    }
    spots.put(path, new Spot(content, pack, file.content));
  }

  private void keep(List<Release> releases, List<Integer> free) {
    if (generations.size() == 6) {
      generations.remove(Collections.min(free));
    }
    versions = new HashMap<>();
    releases.forEach(release -> versions.put(release.pack, release.place));
    current = made++;
    generations.put(current, new Kept(new HashMap<>(versions), new HashMap<>(spots)));
  }

  int steps() {
    return steps;
  }

  int edit(int path, int content) {
    argument(in(0, path, 15) && in(0, content, 999));
    state(spots.containsKey(path));
    Spot was = spots.get(path);
    spots.put(path, new Spot(content, was.owner, was.packed));
    return was.content;
  }

  int path(int path, int what) {
    argument(in(0, path, 15) && in(0, what, 2));
    Spot spot = spots.get(path);
    return spot == null ? NONE : new int[] {spot.content, spot.owner, spot.packed}[what];
  }

  int installed(int pack) {
    place(in(0, pack, 5));
    return versions.getOrDefault(pack, NONE);
  }

  int aside() {
    return aside;
  }

  boolean run(int generation, boolean is) {
    place(generations.containsKey(generation));
    return is ? !running.add(generation) : running.remove(generation);
  }

  int rollback(int generation) {
    place(generations.containsKey(generation));
    Kept kept = generations.get(generation);
    int count = 0;
    for (int path = 0; path < 16; path++) {
      Spot one = spots.get(path);
      count += one == null ? kept.spots.get(path) == null ? 0 : 1 : one.equals(kept.spots.get(path)) ? 0 : 1;
    }
    spots = new HashMap<>(kept.spots);
    versions = new HashMap<>(kept.versions);
    current = generation;
    return count;
  }

  int collect() {
    int had = generations.size();
    generations.keySet().removeIf(number -> number != current && !running.contains(number));
    return had - generations.size();
  }

  int generation() {
    return current;
  }

  int generations() {
    return generations.size();
  }
}
