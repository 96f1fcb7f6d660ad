import java.util.HashMap;
import java.util.Map;

/**
 * Promises 2 to 4: behind each kind of beginning each of the characters 33 to 126, whether it can
 * stand there; texts that are too short, and those with a character too many; the empty tape and
 * the full one. What can stand where is written down here as the steps from one place of a text to
 * the next.
 */
public final class GrammarTest {
  private static final int NONE = Portsmith.NONE;
  private static final String DIGITS = "0123456789";

  /** A place in a text: an example that ends there, whether it is a range, and what may follow. */
  private record Place(String example, boolean isRange, Map<Character, String> next) { }

  private static final Map<String, Place> PLACES = new HashMap<>();

  public static void main(String[] args) {
    tellPlaces();
    for (Place place : PLACES.values()) {
      eachCharacterBehind(place.example, place);
      eachCharacterBehind("*|=1:2.3.4-5,<9|" + place.example, place);
      eachCharacterBehind("=1.2.3-4,^5,~6|=7:8|*|*|*|" + place.example, place);
      fillingTheTape(place);
    }
    emptyTape();
    fullTape();
    Check.end();
  }

  /** Tells a place; behind it come pairs: characters, and the place to which each of them leads. */
  private static void tell(String name, String example, boolean isRange, String... next) {
    Map<Character, String> steps = new HashMap<>();
    for (int i = 0; i < next.length; i += 2) {
      for (char sign : next[i].toCharArray()) {
        steps.put(sign, next[i + 1]);
      }
    }
    PLACES.put(name, new Place(example, isRange, steps));
  }

  private static void tellPlaces() {
    tell("part", "", false, "*", "all", "=^~", "version", "<>", "kind");
    tell("part behind one", "*|", false, "*", "all", "=^~", "version", "<>", "kind");
    tell("all", "*", true, "|", "part behind one");
    tell("test", "=1,", false, "=^~", "version", "<>", "kind");
    tell("kind", ">", false, "=", "version", DIGITS, "epoch or major");
    tell("other kind", "<", false, "=", "version", DIGITS, "epoch or major");
    tell("version", "=", false, DIGITS, "epoch or major");
    tell("version behind two", "<=", false, DIGITS, "epoch or major");
    tell("version of ^", "^", false, DIGITS, "epoch or major");
    tell("version of ~", "~", false, DIGITS, "epoch or major");
    tell("epoch or major", "=9", true, ":", "epoch", ".", "to minor", "-", "to preview",
        ",", "test", "|", "part behind one");
    tell("epoch", "=0:", false, DIGITS, "major");
    tell("major", "=1:0", true, ".", "to minor", "-", "to preview", ",", "test",
        "|", "part behind one");
    tell("to minor", "=1:0.", false, DIGITS, "minor");
    tell("to minor, no epoch", "~0.", false, DIGITS, "minor");
    tell("minor", "=1:0.0", true, ".", "to patch", "-", "to preview", ",", "test",
        "|", "part behind one");
    tell("to patch", "=1.2.", false, DIGITS, "patch");
    tell("patch", "=1.2.9", true, "-", "to preview", ",", "test", "|", "part behind one");
    tell("to preview", "=1.2.9-", false, DIGITS, "preview");
    tell("to preview of major", ">=9-", false, DIGITS, "preview");
    tell("to preview of minor", "=9.8-", false, DIGITS, "preview");
    tell("preview", "=0-0", true, ",", "test", "|", "part behind one");
    tell("preview behind all", "=1:2.3.4-5", true, ",", "test", "|", "part behind one");
  }

  private static void isAt(String text, Place place) {
    Portsmith x = new Portsmith();
    Check.tape(x, text);
    check(x, text, place.isRange ? NONE : text.length());
  }

  /** The fault is asked for, and each call that needs a range agrees with it. */
  private static void check(Portsmith x, String text, int fault) {
    Check.is("fault of " + text, fault, x::fault);
    Check.same("range " + text, fault == NONE ? "0" : Refused.ARGUMENT,
        Check.told(() -> x.within(0)));
    Check.is("the tape of " + text + " stays", text.length(), x::wipe);
  }

  private static void eachCharacterBehind(String text, Place place) {
    isAt(text, place);
    for (char sign = 33; sign <= 126; sign++) {
      Portsmith x = new Portsmith();
      Check.tape(x, text + sign);
      String next = place.next.get(sign);
      if (next == null) {
        check(x, text + sign, text.length());
        // What stands behind a fault makes it neither better nor worse.
        Check.tape(x, text + sign + "=1");
        check(x, text + sign + "=1", text.length());
      } else {
        check(x, text + sign, PLACES.get(next).isRange ? NONE : text.length() + 1);
      }
    }
  }

  /** The same place at the very end of a full tape. */
  private static void fillingTheTape(Place place) {
    StringBuilder text = new StringBuilder();
    int left = 40 - place.example.length();
    if (left % 2 == 1) {
      text.append("=1|");
    }
    while (text.length() < left) {
      text.append("*|");
    }
    text.append(place.example);
    Check.is("the length", 40, text::length);
    isAt(text.toString(), place);
  }

  private static void emptyTape() {
    Portsmith x = new Portsmith();
    Check.is("too short at once", 0, x::fault);
    Check.noArgument("no range", () -> x.within(0));
    Check.is("nothing to wipe", 0, x::wipe);
    Check.is("one", 1, () -> x.type('*', 1));
    Check.is("a range", NONE, x::fault);
    Check.is("one to wipe", 1, x::wipe);
    Check.is("too short again", 0, x::fault);
    Check.is("nothing to wipe again", 0, x::wipe);
  }

  /** Onto each length so many as there is room for, and one more; and all 40 are a range then. */
  private static void fullTape() {
    for (int length = 32; length <= 40; length++) {
      for (int n = 1; n <= 8; n++) {
        Portsmith x = new Portsmith();
        Check.tape(x, "*|*|*|*|*|*|*|*|*|*|*|*|*|*|*|*|*|*|=1-1".substring(0, length));
        int more = n;
        if (length + n <= 40) {
          Check.is(length + " and " + n, length + n, () -> x.type(Check.packed("||||||||"), more));
          Check.is("to wipe", length + n, x::wipe);
        } else {
          Check.noState(length + " and " + n, () -> x.type(Check.packed("||||||||"), more));
          Check.is("to wipe", length, x::wipe);
        }
      }
    }
    Portsmith x = new Portsmith();
    Check.version(x, 0, 1000);
    Check.version(x, 0, 1001);
    Check.version(x, 0, 1002);
    Check.tape(x, "*|*|*|*|*|*|*|*|*|*|*|*|*|*|*|*|*|*|=1-1");
    Check.is("the last part of a full tape counts", 3, () -> x.within(0));
    Check.is("a full tape is a wish", 1, () -> x.wish(0, 0));
    Check.is("and is empty then", 0, x::wipe);
    Check.is("the wish is met by two", 2, () -> x.closures(0));
  }
}
