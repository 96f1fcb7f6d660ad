import java.util.ArrayList;
import java.util.List;

/** Runs of calls that are drawn from written seeds, on the program and on the model side by side. */
public final class RandomRunsTest {
  private static final int NONE = Portsmith.NONE;
  private static final int CALLS = 512;
  private static final int RUNS = 1000;

  // What a run is about, mostly: how many of a hundred moves tell, solve, or are of mirrors; the
  // others install.
  private static final int[][] SHARES = {{35, 65, 75}, {30, 92, 94}, {2, 8, 10}};

  private long seed;
  private final Portsmith x = new Portsmith();
  private final Model y = new Model();
  private final List<String> trail = new ArrayList<>();
  private boolean isWrong = false;
  // How wild a run is: how many of a hundred arguments may be out of range.
  private final int wildness;
  private final int packs;
  private final int mostVersions;
  // How many of a hundred ranges hold of all releases.
  private final int easiness;
  private final int theme;

  private RandomRunsTest(int run) {
    seed = run * 7919L + 17;
    for (int i = 0; i < 8; i++) {
      draw(2);
    }
    for (int pack = 0; pack < 6; pack++) {
      numbers.add(new ArrayList<>());
    }
    wildness = new int[] {0, 1, 3, 15}[draw(4)];
    theme = draw(SHARES.length);
    easiness = theme == 2 ? 90 : 20 + draw(60);
    packs = 2 + draw(5);
    mostVersions = 1 + draw(packs > 4 ? 3 : 4);
  }

  public static void main(String[] args) {
    int first = args.length > 1 ? Integer.parseInt(args[1]) : 0;
    int runs = args.length > 2 ? Integer.parseInt(args[2]) : RUNS;
    for (int run = first; run < first + runs; run++) {
      new RandomRunsTest(run).play(run);
    }
    if (args.length > 3) {
      System.out.println(STATISTICS);
    }
    Check.end();
  }

  private static final java.util.TreeMap<String, Integer> STATISTICS = new java.util.TreeMap<>();

  private int draw(int bound) {
    seed = seed * 6364136223846793005L + 1442695040888963407L;
    return (int) ((seed >>> 33) % bound);
  }

  private boolean chance(int ofHundred) {
    return draw(100) < ofHundred;
  }

  private int any(int least, int most) {
    if (chance(wildness)) {
      int[] wild = {least - 1, most + 1, -2, -1, 0, 1000, 100000, Integer.MAX_VALUE, Integer.MIN_VALUE};
      return wild[draw(wild.length)];
    }
    return least + draw(most - least + 1);
  }

  private int pack() {
    return chance(wildness) ? any(0, 5) : draw(packs);
  }

  private int release(int pack) {
    if (chance(wildness) || pack < 0 || pack > 5) {
      return any(0, 3);
    }
    int count = 0;
    while (count < 4 && Check.told(c(count)).equals("0")) {
      count++;
    }
    return count == 0 ? 0 : draw(count);
  }

  private Check.Call c(int version) {
    return () -> x.compare(packOfRelease, version, version);
  }

  private int packOfRelease = 0;

  private int number() {
    int[] digits = {0, 0, 1, 1, 2, 9};
    int number = chance(15) ? draw(3) : 0;
    number = number * 10 + digits[draw(6)];
    number = number * 10 + (chance(60) ? 0 : digits[draw(6)]);
    number = number * 10 + (chance(70) ? 0 : digits[draw(6)]);
    number = number * 10 + (chance(75) ? 0 : digits[draw(6)]);
    return chance(wildness) ? any(0, 99999) : number;
  }

  private String test() {
    String[] kinds = {"=", ">", "<", ">=", "<=", "^", "~", ">=", "^", "~"};
    String digits = String.format("%05d", Math.floorMod(number(), 100000));
    StringBuilder text = new StringBuilder(kinds[draw(kinds.length)]);
    if (chance(10) || digits.charAt(0) != '0') {
      text.append(digits.charAt(0)).append(':');
    }
    text.append(digits.charAt(1));
    if (chance(40) || !digits.startsWith("00", 2)) {
      text.append('.').append(digits.charAt(2));
      if (chance(40) || digits.charAt(3) != '0') {
        text.append('.').append(digits.charAt(3));
      }
    }
    if (chance(10) || digits.charAt(4) != '0') {
      text.append('-').append(digits.charAt(4));
    }
    return text.toString();
  }

  private String range() {
    if (chance(easiness)) {
      return "*";
    }
    StringBuilder text = new StringBuilder();
    int parts = chance(25) ? 1 + draw(4) : 1;
    for (int part = 0; part < parts; part++) {
      text.append(part == 0 ? "" : "|");
      int tests = chance(40) ? 1 + draw(3) : 1;
      for (int test = 0; test < tests; test++) {
        text.append(test == 0 ? "" : ",").append(chance(5) ? "*" : test());
      }
    }
    if (chance(wildness) && text.length() > 0) {
      text.setCharAt(draw(text.length()), "*|,=<>^~:.-0123x".charAt(draw(16)));
    }
    if (chance(wildness)) {
      text.setLength(draw(text.length() + 1));
    }
    return text.toString();
  }

  private interface Asked {
    long of(Portsmith x);
  }

  private interface AskedModel {
    long of(Model y);
  }

  private int calls = 0;
  private final List<List<Integer>> numbers = new ArrayList<>();

  private void ask(String call, Asked one, AskedModel other) {
    if (isWrong || calls >= CALLS) {
      return;
    }
    calls++;
    String got = Check.told(() -> one.of(x));
    String want = Check.told(() -> other.of(y));
    trail.add(call + " -> " + got);
    STATISTICS.merge(call.substring(0, call.indexOf('(')) + " " + want, 1, Integer::sum);
    Check.same(call, want, got);
    if (!want.equals(got)) {
      isWrong = true;
    }
  }

  private void tape(String text) {
    if (chance(90)) {
      ask("wipe()", x -> x.wipe(), y -> y.wipe());
    }
    for (int i = 0; i < text.length(); i += 8) {
      String piece = text.substring(i, Math.min(text.length(), i + 8));
      long characters = Check.packed(piece);
      int n = chance(wildness) ? any(1, 8) : piece.length();
      ask("type(" + piece + ", " + n + ")", x -> x.type(characters, n), y -> y.type(characters, n));
    }
    if (chance(20)) {
      ask("fault()", x -> x.fault(), y -> y.fault());
    }
  }

  private static long bit(boolean is) {
    return is ? 1 : 0;
  }

  private int versionOf(int pack) {
    packOfRelease = pack;
    return release(pack);
  }

  private void play(int run) {
    for (int pack = 0; pack < packs; pack++) {
      int versions = 1 + draw(mostVersions);
      for (int i = 0; i < versions; i++) {
        tellVersion(pack);
        for (int file = draw(4); file > 0; file--) {
          tellFile(pack, i);
        }
      }
    }
    while (calls < CALLS && !isWrong) {
      int[] shares = SHARES[theme];
      int kind = draw(100);
      if (kind < shares[0]) {
        tell();
      } else if (kind < shares[1]) {
        solving();
      } else if (kind < shares[2]) {
        trusting();
      } else {
        installing();
      }
    }
    if (isWrong) {
      System.out.println("run " + run + ":");
      trail.forEach(System.out::println);
    }
  }

  private void tellVersion(int pack) {
    int number = number();
    int features = chance(wildness) ? any(0, 15) : draw(16) | draw(16);
    int licence = any(0, 3);
    int content = any(0, 999);
    ask("version(" + pack + ", " + number + ", " + features + ", " + licence + ", " + content + ")",
        x -> x.version(pack, number, features, licence, content),
        y -> y.version(pack, number, features, licence, content));
    if (pack >= 0 && pack < 6 && number >= 0 && number < 100000) {
      numbers.get(pack).add(number);
    }
  }

  /** Wishes some releases by their numbers, and installs what is solved. */
  private void renew() {
    for (int edits = draw(4); edits > 0; edits--) {
      edit(filePath());
    }
    ask("unwish()", x -> x.unwish(), y -> y.unwish());
    for (int pack = 0; pack < packs; pack++) {
      if (chance(60) && !numbers.get(pack).isEmpty()) {
        int of = pack;
        tape("=" + told(numbers.get(pack).get(draw(numbers.get(pack).size()))));
        ask("wish(" + of + ", 0)", x -> x.wish(of, 0), y -> y.wish(of, 0));
      }
    }
    solve(0);
    ask("lock(0)", x -> x.lock(0), y -> y.lock(0));
    install(0, chance(80) ? 99 : draw(8));
  }

  private void edit(int path) {
    int content = chance(wildness) ? any(0, 999) : draw(3);
    ask("edit(" + path + ", " + content + ")", x -> x.edit(path, content), y -> y.edit(path, content));
  }

  private static String told(int number) {
    String digits = String.format("%05d", number);
    return digits.charAt(0) + ":" + digits.charAt(1) + "." + digits.charAt(2) + "."
        + digits.charAt(3) + "-" + digits.charAt(4);
  }

  private void install(int platform, int steps) {
    ask("install(" + platform + ", " + steps + ")", x -> x.install(platform, steps), y -> y.install(platform, steps));
    ask("steps()", x -> x.steps(), y -> y.steps());
    ask("aside()", x -> x.aside(), y -> y.aside());
  }

  private void tell() {
    int pack = pack();
    int version = versionOf(pack);
    int other = pack();
    switch (draw(12)) {
      case 0 -> {
        int scheme = any(0, 2);
        ask("scheme(" + pack + ", " + scheme + ")", x -> x.scheme(pack, scheme), y -> y.scheme(pack, scheme));
      }
      case 1 -> {
        if (chance(30)) {
          tellVersion(pack);
        }
      }
      case 2, 3, 4 -> tellNeed(pack, version, other);
      case 5 -> {
        tape(range());
        ask("conflict(" + pack + ", " + version + ", " + other + ")",
            x -> x.conflict(pack, version, other), y -> y.conflict(pack, version, other));
      }
      case 6 -> {
        int number = number();
        ask("provide(" + pack + ", " + version + ", " + other + ", " + number + ")",
            x -> x.provide(pack, version, other, number), y -> y.provide(pack, version, other, number));
      }
      case 7 -> {
        boolean is = chance(40);
        ask("yank(" + pack + ", " + version + ", " + is + ")",
            x -> bit(x.yank(pack, version, is)), y -> bit(y.yank(pack, version, is)));
      }
      case 8, 9 -> {
        int otherVersion = versionOf(pack);
        ask("compare(" + pack + ", " + version + ", " + otherVersion + ")",
            x -> x.compare(pack, version, otherVersion), y -> y.compare(pack, version, otherVersion));
      }
      case 10 -> {
        tape(range());
        ask("within(" + pack + ")", x -> x.within(pack), y -> y.within(pack));
      }
      default -> tellFile(pack, version);
    }
  }

  private void tellFile(int pack, int version) {
    int path = chance(70) ? pack * 2 + draw(3) : any(0, 15);
    int content = chance(wildness) ? any(0, 999) : draw(3);
    boolean is = chance(70);
    ask("file(" + pack + ", " + version + ", " + path + ", " + content + ", " + is + ")",
        x -> x.file(pack, version, path, content, is), y -> y.file(pack, version, path, content, is));
  }

  private int filePath() {
    int path = chance(80) ? draw(packs * 2 + 1) : any(0, 15);
    // One that has something says more.
    for (int i = 0; i < 4 && Check.told(valueAt(path)).equals("-1"); i++) {
      path = draw(16);
    }
    return path;
  }

  private Check.Call valueAt(int path) {
    return () -> x.path(path, 0);
  }

  private void tellNeed(int pack, int version, int other) {
    tape(range());
    int features = chance(60) ? 0 : any(0, 15) & draw(16);
    int platforms = chance(60) ? 7 : any(1, 7);
    int own = chance(60) ? NONE : chance(wildness) ? any(-2, 16) : 1 << draw(4);
    ask("need(" + pack + ", " + version + ", " + other + ", " + features + ", " + platforms + ", " + own + ")",
        x -> x.need(pack, version, other, features, platforms, own),
        y -> y.need(pack, version, other, features, platforms, own));
  }

  private int platform() {
    return chance(60) ? 0 : any(0, 2);
  }

  private void solving() {
    int platform = platform();
    int pack = pack();
    switch (draw(14)) {
      case 0, 1, 2 -> {
        if (chance(40)) {
          ask("unwish()", x -> x.unwish(), y -> y.unwish());
        }
        tape(chance(50) ? "*" : range());
        int features = chance(70) ? 0 : any(0, 15) & draw(16);
        ask("wish(" + pack + ", " + features + ")", x -> x.wish(pack, features), y -> y.wish(pack, features));
      }
      case 3 -> {
        if (chance(60)) {
          ask("unwish()", x -> x.unwish(), y -> y.unwish());
        }
      }
      case 4 -> {
        int licences = chance(70) ? 15 : any(0, 15);
        ask("policy(" + licences + ")", x -> x.policy(licences), y -> y.policy(licences));
      }
      case 5, 6, 7 -> {
        solve(platform);
        ask("lock(" + platform + ")", x -> x.lock(platform), y -> y.lock(platform));
      }
      case 8 -> {
        solve(platform);
        ask("proposed(" + platform + ", " + pack + ")", x -> x.proposed(platform, pack), y -> y.proposed(platform, pack));
      }
      case 9 -> ask("closures(" + platform + ")", x -> x.closures(platform), y -> y.closures(platform));
      case 10 -> ask("story(" + platform + ")", x -> x.story(platform), y -> y.story(platform));
      case 11 -> ask("locked(" + platform + ", " + pack + ")", x -> x.locked(platform, pack), y -> y.locked(platform, pack));
      case 12 -> ask("holds(" + platform + ")", x -> bit(x.holds(platform)), y -> bit(y.holds(platform)));
      default -> {
        int severity = any(1, 9);
        if (chance(40)) {
          tape(range());
          ask("advise(" + pack + ", " + severity + ")", x -> x.advise(pack, severity), y -> y.advise(pack, severity));
        }
        ask("advised(" + platform + ", " + severity + ")", x -> x.advised(platform, severity), y -> y.advised(platform, severity));
      }
    }
  }

  private void solve(int platform) {
    int but = chance(60) ? NONE : any(-1, 5);
    ask("solve(" + platform + ", " + but + ")", x -> x.solve(platform, but), y -> y.solve(platform, but));
    for (int pack = 0; pack < packs; pack++) {
      int of = pack;
      if (chance(50)) {
        ask("proposed(" + platform + ", " + of + ")", x -> x.proposed(platform, of), y -> y.proposed(platform, of));
      }
    }
  }

  private void trusting() {
    int pack = pack();
    int version = versionOf(pack);
    int mirror = any(0, 2);
    int signed = any(0, 31) | draw(32);
    switch (draw(8)) {
      case 0 -> {
        int minutes = chance(70) ? draw(5) : any(0, 1000);
        ask("pass(" + minutes + ")", x -> x.pass(minutes), y -> y.pass(minutes));
      }
      case 1 -> {
        int keys = any(1, 31);
        int threshold = any(1, 4);
        ask("role(" + keys + ", " + threshold + ", " + signed + ")",
            x -> bit(x.role(keys, threshold, signed)), y -> bit(y.role(keys, threshold, signed)));
      }
      case 2, 3 -> {
        int number = chance(80) ? draw(6) : any(0, 9999);
        int ends = chance(80) ? draw(10) : any(0, 200000);
        ask("index(" + number + ", " + ends + ", " + signed + ")",
            x -> x.index(number, ends, signed), y -> y.index(number, ends, signed));
      }
      case 4 -> {
        int content = any(-1, 999);
        ask("mirror(" + mirror + ", " + pack + ", " + version + ", " + content + ")",
            x -> x.mirror(mirror, pack, version, content), y -> y.mirror(mirror, pack, version, content));
      }
      case 5 -> {
        boolean is = chance(40);
        ask("shut(" + mirror + ", " + is + ")", x -> bit(x.shut(mirror, is)), y -> bit(y.shut(mirror, is)));
      }
      case 6 -> ask("fetch(" + pack + ", " + version + ")", x -> x.fetch(pack, version), y -> y.fetch(pack, version));
      default -> ask("lies(" + mirror + ")", x -> x.lies(mirror), y -> y.lies(mirror));
    }
  }

  private int generation() {
    int current = x.generation();
    return chance(10) ? any(0, 9) : Math.max(0, current - 3 + draw(7));
  }

  private void installing() {
    int path = filePath();
    int pack = pack();
    int generation = generation();
    switch (draw(14)) {
      case 0, 1, 2, 3, 4 -> {
        if (chance(theme == 2 ? 60 : 5)) {
          renew();
        } else {
          install(theme == 2 && chance(90) ? 0 : platform(), chance(30) ? draw(8) : any(0, 99));
        }
      }
      case 5 -> {
        int of = chance(40) ? NONE : pack;
        int to = filePath();
        ask("divert(" + of + ", " + path + ", " + to + ")", x -> x.divert(of, path, to), y -> y.divert(of, path, to));
      }
      case 6, 7 -> edit(path);
      case 8, 9 -> {
        int what = any(0, 2);
        ask("path(" + path + ", " + what + ")", x -> x.path(path, what), y -> y.path(path, what));
      }
      case 10 -> ask("installed(" + pack + ")", x -> x.installed(pack), y -> y.installed(pack));
      case 11 -> {
        boolean is = chance(60);
        ask("run(" + generation + ", " + is + ")", x -> bit(x.run(generation, is)), y -> bit(y.run(generation, is)));
      }
      case 12 -> ask("rollback(" + generation + ")", x -> x.rollback(generation), y -> y.rollback(generation));
      default -> {
        if (chance(15)) {
          ask("collect()", x -> x.collect(), y -> y.collect());
        }
        ask("generation()", x -> x.generation(), y -> y.generation());
        ask("generations()", x -> x.generations(), y -> y.generations());
      }
    }
  }
}
