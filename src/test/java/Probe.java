import java.util.ArrayList;
import java.util.List;

/**
 * Asks an object so much that two of them that answer alike are in the same state, as far as the
 * tests go. It uses the object up: what is asked for last changes it.
 */
final class Probe {
  private static final int NONE = Portsmith.NONE;

  private final Portsmith x;
  private final List<String> answers = new ArrayList<>();

  private Probe(Portsmith x) {
    this.x = x;
  }

  static List<String> of(Portsmith x) {
    Probe probe = new Probe(x);
    probe.tape();
    probe.machine();
    probe.solutions();
    probe.trust();
    probe.packages();
    probe.rooms();
    probe.leftovers();
    return probe.answers;
  }

  /** Tells where the answers are not the same first; an empty text, if they are. */
  static String difference(List<String> want, List<String> got) {
    for (int i = 0; i < want.size() && i < got.size(); i++) {
      if (!want.get(i).equals(got.get(i))) {
        return got.get(i) + " in place of " + want.get(i);
      }
    }
    return want.size() == got.size() ? "" : "more or fewer answers";
  }

  private void ask(String what, Check.Call call) {
    answers.add(what + ": " + Check.told(call));
  }

  private void tape() {
    ask("fault", x::fault);
    ask("within 0", () -> x.within(0));
    ask("within 5", () -> x.within(5));
    ask("the tape", x::wipe);
  }

  private void machine() {
    ask("steps", x::steps);
    ask("aside", x::aside);
    ask("generation", x::generation);
    ask("generations", x::generations);
    for (int path = 0; path < 16; path++) {
      for (int what = 0; what < 3; what++) {
        int of = path;
        int which = what;
        ask("path " + path + ", " + what, () -> x.path(of, which));
      }
    }
    for (int pack = 0; pack < 6; pack++) {
      int of = pack;
      ask("installed " + pack, () -> x.installed(of));
    }
    for (int number = 0; number < 8; number++) {
      int of = number;
      ask("runs " + number, () -> x.run(of, false) ? 1 : 0);
    }
  }

  private void solutions() {
    for (int platform = 0; platform < 3; platform++) {
      int on = platform;
      for (int pack = 0; pack < 6; pack++) {
        int of = pack;
        ask("proposed " + on + ", " + pack, () -> x.proposed(on, of));
        ask("locked " + on + ", " + pack, () -> x.locked(on, of));
      }
      ask("holds " + on, () -> x.holds(on) ? 1 : 0);
      ask("closures " + on, () -> x.closures(on));
      ask("story " + on, () -> x.story(on));
      ask("advised " + on, () -> x.advised(on, 1));
    }
    ask("policy", () -> x.policy(15));
    ask("closures for all licences", () -> x.closures(0));
  }

  // An index that ends at once is never accepted: so its answer only tells which numbers are below,
  // and who must sign it. The greater numbers come later: should one count all the same, those
  // ahead of it have told before what the number was.
  private void trust() {
    ask("the minute", () -> x.pass(0));
    for (int number : new int[] {0, 39, 40, 41, 9998}) {
      ask("index " + number, () -> x.index(number, 0, 31));
    }
    for (int signed = 0; signed < 32; signed++) {
      int by = signed;
      ask("signed " + signed, () -> x.index(9999, 0, by));
    }
    for (int mirror = 0; mirror < 3; mirror++) {
      int of = mirror;
      ask("lies " + mirror, () -> x.lies(of));
      ask("gives " + mirror, () -> x.mirror(of, 0, 1, NONE));
      ask("gives of 5 " + mirror, () -> x.mirror(of, 5, 0, NONE));
      ask("shut " + mirror, () -> x.shut(of, false) ? 1 : 0);
    }
    ask("fetch", () -> x.fetch(0, 1));
    ask("fetch 0", () -> x.fetch(0, 0));
    ask("fetch 5", () -> x.fetch(5, 2));
  }

  private void packages() {
    Check.tape(x, ">=1");
    for (int pack = 0; pack < 6; pack++) {
      int of = pack;
      ask("scheme " + pack, () -> x.scheme(of, Portsmith.NUMBERS));
      ask("within " + pack, () -> x.within(of));
      ask("order of " + pack, () -> x.compare(of, 0, 1));
      for (int version = 0; version < 4; version++) {
        int number = version;
        ask("yanked " + pack + ", " + version, () -> x.yank(of, number, false) ? 1 : 0);
      }
      ask("next of " + pack, () -> x.version(of, 0, 0, 0, 0));
    }
  }

  private void rooms() {
    for (int version = 1; version < 3; version++) {
      int of = version;
      ask("needs " + version, () -> Check.need(x, 0, of, 1, "*"));
      ask("conflicts " + version, () -> Check.conflict(x, 0, of, 1, "*"));
      ask("provides " + version, () -> x.provide(0, of, 1, 0));
      for (int path = 0; path < 16; path += 15) {
        int at = path;
        ask("files " + version, () -> x.file(0, of, at, 0, false));
      }
    }
    Check.tape(x, "*");
    ask("advisories", () -> x.advise(1, 1));
    ask("wishes", x::unwish);
  }

  private void leftovers() {
    for (int path = 0; path < 16; path++) {
      int of = path;
      ask("diverted " + path, () -> x.divert(NONE, of, of == 0 ? 1 : 0));
    }
    ask("lock", () -> x.lock(0));
    ask("install", () -> x.install(0, 99));
    ask("install 1", () -> x.install(1, 99));
    for (int number = 0; number < 8; number++) {
      int of = number;
      ask("roll back to " + number, () -> x.rollback(of));
    }
    ask("collect", x::collect);
  }
}
