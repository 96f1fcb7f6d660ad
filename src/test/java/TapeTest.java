/** Promises 2 to 4: what the tape has, and where it is no range. */
public final class TapeTest {
  public static void main(String[] args) {
    typing();
    wiping();
    faults();
    Check.end();
  }

  private static void typing() {
    Portsmith x = new Portsmith();
    Check.is("one character", 1, () -> x.type('*', 1));
    Check.is("only the n lowest count", 3, () -> x.type(0xFFFFFFFFFFFF0000L | '!' | '~' << 8, 2));
    Check.is("eight of them", 11, () -> x.type(Check.packed("abcdefgh"), 8));
    Check.noArgument("n 0", () -> x.type('*', 0));
    Check.noArgument("n 9", () -> x.type('*', 9));
    Check.noArgument("n 9, all in range", () -> x.type(Check.packed("abcdefgh"), 9));
    Check.noArgument("n -1", () -> x.type('*', -1));
    Check.noArgument("n least", () -> x.type('*', Integer.MIN_VALUE));
    Check.noArgument("a space", () -> x.type(32, 1));
    Check.noArgument("127", () -> x.type(127, 1));
    Check.noArgument("255 as the eighth", () -> x.type(0xFF2A2A2A2A2A2A2AL, 8));
    Check.noArgument("0 as the second", () -> x.type('*', 2));
    Check.is("what throws types nothing", 12, () -> x.type('*', 1));
    Check.is("to 20", 20, () -> x.type(Check.packed("abcdefgh"), 8));
    Check.is("to 28", 28, () -> x.type(Check.packed("abcdefgh"), 8));
    Check.is("to 36", 36, () -> x.type(Check.packed("abcdefgh"), 8));
    Check.noState("to 41", () -> x.type(Check.packed("abcde"), 5));
    Check.noArgument("too many, one out of range", () -> x.type(Check.packed("abcd "), 5));
    Check.is("to 40", 40, () -> x.type(Check.packed("abcd"), 4));
    Check.noState("41", () -> x.type('a', 1));
  }

  private static void wiping() {
    Portsmith x = new Portsmith();
    Check.is("nothing to wipe", 0, x::wipe);
    x.type(Check.packed("=1.2"), 4);
    Check.is("four to wipe", 4, x::wipe);
    Check.is("none are left", 0, x::wipe);
    Check.is("typed anew", 1, () -> x.type('*', 1));
    Check.is("the old ones are gone", -1, x::fault);
  }

  private static void fault(String text, int want) {
    Portsmith x = new Portsmith();
    Check.tape(x, text);
    Check.is("fault of " + text, want, x::fault);
    Check.is("the tape of " + text + " stays", text.length(), x::wipe);
  }

  private static void faults() {
    String[] right = {"*", "*|*", "=1", ">1", "<1", ">=1", "<=1", "^1", "~1", "=1.2", "=1.2.3",
        "=1-4", "=1.2-4", "=1.2.3-4", "=0:1", "=9:1.2.3-4", "=1:2-0", ">=1,<2", ">=1,<2|*|=3",
        "*|=1", "=1,=2,=3|=4,=5", "^0.0.0-0", "=1,=1,=1,=1,=1,=1,=1,=1,=1,=1,=1,=1,=1",
        "*|*|*|*|*|*|*|*|*|*|*|*|*|*|*|*|*|*|*|*"};
    for (String text : right) {
      fault(text, Portsmith.NONE);
    }
    fault("", 0);
    fault("a", 0);
    fault("1", 0);
    fault("|", 0);
    fault(",", 0);
    fault("**", 1);
    fault("*,=1", 1);
    fault("*1", 1);
    fault("*|", 2);
    fault("*||", 2);
    fault("=", 1);
    fault("==1", 1);
    fault("=>1", 1);
    fault(">", 1);
    fault(">=", 2);
    fault(">==1", 2);
    fault("><1", 1);
    fault("<>1", 1);
    fault("^=1", 1);
    fault("~>1", 1);
    fault("=*", 1);
    fault("=x", 1);
    fault("=.", 1);
    fault("=-1", 1);
    fault("=:1", 1);
    fault("=12", 2);
    fault("=1:", 3);
    fault("=1:x", 3);
    fault("=1::2", 3);
    fault("=1:2:3", 4);
    fault("=1.2:3", 4);
    fault("=1.", 3);
    fault("=1.,", 3);
    fault("=1.-1", 3);
    fault("=1.22", 4);
    fault("=1.2.", 5);
    fault("=1.2.33", 6);
    fault("=1.2.3.4", 6);
    fault("=1.2.3:4", 6);
    fault("=1-", 3);
    fault("=1-x", 3);
    fault("=1-2-3", 4);
    fault("=1-2.3", 4);
    fault("=1-22", 4);
    fault("=1,", 3);
    fault("=1,*", 3);
    fault("=1,,=2", 3);
    fault("=1,|=2", 3);
    fault("=1,2", 3);
    fault("=1|", 3);
    fault("=1|,", 3);
    fault("=1|2", 3);
    fault("=1=2", 2);
    fault("=1*", 2);
    fault("=1,=1,=1,=1,=1,=1,=1,=1,=1,=1,=1,=1,=1,", 39);
    fault("=1,=1,=1,=1,=1,=1,=1,=1,=1,=1,=1,=1,=1,=", 40);
    fault("*|*|*|*|*|*|*|*|*|*|*|*|*|*|*|*|*|*|*|*|", 40);
  }
}
